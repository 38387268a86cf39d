/-! the small methods of a plan and of a state -/
section LEA
set_option maxRecDepth 100000
variable {u s p l : Nat} {j k q e w c T : Int} {A : AT} {M : Mem} {X : PX}
theorem ii_div {a b : Int} (h1 : 0 ≤ a) (h2 : a < 2147483648) (h3 : 0 < b) (h4 : b < 2147483648) : ii a / ii b = ii (a / b) := by
  unfold ii
  rw [← Int32.ofInt_tdiv (show Int32.minValue.toInt ≤ a by have : Int32.minValue.toInt = -2147483648 := rfl; omega) (show a ≤ Int32.maxValue.toInt by have : Int32.maxValue.toInt = 2147483647 := rfl; omega) (show Int32.minValue.toInt ≤ b by have : Int32.minValue.toInt = -2147483648 := rfl; omega) (show b ≤ Int32.maxValue.toInt by have : Int32.maxValue.toInt = 2147483647 := rfl; omega), Int.tdiv_eq_ediv_of_nonneg h1]
def dueA (A : AT) (c : Int) : Int := if A 53 c < A 0 5 then (if (A 0 5 - A 53 c) % A 52 c = 0 then 0 else A 52 c - (A 0 5 - A 53 c) % A 52 c) else A 53 c - A 0 5
theorem due_ge (hi : INV A T) (h1 : 0 ≤ c) (h2 : c < A 0 4) : 0 ≤ dueA A c ∧ dueA A c ≤ 999 := by
  obtain ⟨b1, b2, b3, b4, b5, b6, b7, b8⟩ := hi.2.2.2.2.2.1 c h1 h2
  have b9 := hi.1.2.2.2.2.2.2.2.2.2.2.1
  have m1 := Int.emod_nonneg (A 0 5 - A 53 c) (by omega : A 52 c ≠ 0)
  have m2 := Int.emod_lt_of_pos (A 0 5 - A 53 c) (by omega : 0 < A 52 c)
  unfold dueA
  split <;> first | omega | (split <;> omega)
/-- a coming's due, at a tick of its own -/
theorem S65 (hp : PLv M p A) (hl : PlL p) (hi : INV A T) (hT : T < 1000000) (h1 : 0 ≤ c) (h2 : c < A 0 4) : ev true 65 0 0 [pR 5 p, pI (ii c), pI (ii (A 0 5)), p0, p0, p0] [] M X = some (.inl (some (pI (ii (dueA A c)))), M, X) := by
  obtain ⟨l1, l2, l3, l4, l5, l6, l7, l8, l9, l10, l11, l12, l13, l14, l15, l16⟩ := hl
  obtain ⟨p1, p2, p3, p4, p5, p6, p7, p8, p9, p10, p11, p12, p13, p14, p15, p16, p17⟩ := hp
  obtain ⟨b1, b2, b3, b4, b5, b6, b7, b8⟩ := hi.2.2.2.2.2.1 c h1 h2
  obtain ⟨i1, i2, i3, i4, i5, i6, i7, i8, i9, i10, i11, i12, -⟩ := hi.1
  have m1 := Int.emod_nonneg (A 0 5 - A 53 c) (by omega : A 52 c ≠ 0)
  have m2 := Int.emod_lt_of_pos (A 0 5 - A 53 c) (by omega : 0 < A 52 c)
  rw [q65_0, S12 (by omega) (by omega), kb1, q65_8, S12 (by omega) (by omega), kb1, q65_17, p15 c h1 h2, p14 c h1 h2, ilt (by omega)]
  unfold dueA
  by_cases hc : A 53 c < A 0 5
  · rw [if_pos hc, if_pos hc, i_1, ltF (by omega), i_0, eqF (by omega), ii_sub, ii_div (by omega) (by omega) (by omega) (by omega), ii_mul, ii_sub, show A 0 5 - A 53 c - (A 0 5 - A 53 c) / A 52 c * A 52 c = (A 0 5 - A 53 c) % A 52 c by rw [Int.mul_comm, Int.emod_def], ieq (by omega)]
    by_cases hd : (A 0 5 - A 53 c) % A 52 c = 0
    · rw [if_pos hd, if_pos hd, q65_58]
    · rw [if_neg hd, if_neg hd, ii_sub, q65_58]
  · rw [if_neg hc, if_neg hc, ii_sub]
theorem S67 (hs : STv M s A) (hl : StL s) (hi : INV A T) (h1 : 0 ≤ j) (h2 : j < A 0 3) : ev true 67 0 0 [pR 6 s, pI (ii j)] [] M X = some (.inl (some (pI (bI (decide (A 41 j ≤ A 44 j))))), M, X) := by
  obtain ⟨l0, l1, l2, l3, l4, l5, l6, l7, l8, l9, l10, l11, l12, l13, l14, l15, l16, l17⟩ := hl
  obtain ⟨s1, s2, s3, s4, s5, s6, s7, s8, s9, s10, s11, s12, s13, s14, s15, s16, s17⟩ := hs
  obtain ⟨i1, i2, i3, i4, i5, i6, i7, i8, i9, i10, i11, i12, -⟩ := hi.1
  obtain ⟨b1, b2, b3, b4, b5, b6, b7, b8, b9, b10, b11⟩ := hi.2.2.2.1 j h1 h2
  obtain ⟨c1, c2, c3, -⟩ := s3 j h1 (by omega)
  rw [q67_0, S12 (by omega) (by omega), kb1, q67_11, S12 (by omega) (by omega), kb1, q67_19, s5 j h1 h2, show cl M (s + 19) j = ii (A 44 j) from c3, ilt (by omega), i_0, i_1]
  by_cases hc : A 44 j < A 41 j
  · rw [if_pos hc, q67_27, rk0, decide_eq_false (by omega)]; rfl
  · rw [if_neg hc, q67_27, rk1, decide_eq_true (by omega)]; rfl
def lateA (A : AT) (j : Int) : Int := if 0 < A 44 j then A 0 5 - A 61 (20 * j) else 0
theorem late_in (hi : INV A T) (h1 : 0 ≤ j) (h2 : j < A 0 3) : 0 ≤ lateA A j ∧ lateA A j ≤ A 0 5 := by
  obtain ⟨b1, b2, b3, b4, b5, b6, b7, b8, b9, b10, b11, b12, b13⟩ := hi.2.2.2.1 j h1 h2
  have b99 := hi.1.2.2.2.2.2.2.2.2.2.2.1
  unfold lateA
  split
  · have := b13 0 (Int.le_refl 0) (by omega)
    rw [Int.add_zero] at this
    omega
  · omega
theorem S69 (hs : STv M s A) (hl : StL s) (hi : INV A T) (h1 : 0 ≤ j) (h2 : j < A 0 3) : ev true 69 0 0 [pR 6 s, pI (ii j)] [] M X = some (.inl (some (pI (ii (lateA A j)))), M, X) := by
  obtain ⟨l0, l1, l2, l3, l4, l5, l6, l7, l8, l9, l10, l11, l12, l13, l14, l15, l16, l17⟩ := hl
  obtain ⟨s1, s2, s3, s4, s5, s6, s7, s8, s9, s10, s11, s12, s13, s14, s15, s16, s17⟩ := hs
  obtain ⟨i1, i2, i3, i4, i5, i6, i7, i8, i9, i10, i11, i12, -⟩ := hi.1
  obtain ⟨c1, c2, c3, c4⟩ := s3 j h1 (by omega)
  rw [q69_0, S12 (by omega) (by omega), kb1, q69_11, show cl M (s + 19) j = ii (A 44 j) from c3, i_0, ilt (by omega)]
  unfold lateA
  by_cases hc : 0 < A 44 j
  · have c5 := (c4 0 (Int.le_refl 0) hc).2
    rw [Int.add_zero] at c5
    rw [if_pos hc, if_pos hc, i_20, ii_mul, Int.mul_comm j 20, S12 (by omega) (by omega), kb1, q69_32, s1, show cl M (s + 17) (20 * j) = ii (A 61 (20 * j)) from c5, ii_sub, q69_37]
  · rw [if_neg hc, if_neg hc, q69_37]
theorem S155 (hs : STv M s A) (hl : StL s) (hi : INV A T) (h1 : 0 ≤ q) (h2 : q < A 0 0) : ev true 155 0 0 [pR 6 s, pI (ii q)] [] M X = some (.inl (some (pI (ii (if A 20 q = -1 then -1 else A 0 5 - A 23 q)))), M, X) := by
  obtain ⟨s1, ⟨tu, s2⟩, -⟩ := hs
  obtain ⟨i1, i2, i3, i4, i5, i6, i7, i8, i9, i10, i11, i12, -⟩ := hi.1
  obtain ⟨b1, b2, -⟩ := hi.2.2.2.2.2.2 q h1 h2
  rw [q155_0, S78 s2 hl.1 h1 h2, kb1, q155_8, ii_m1, ieq (by omega)]
  by_cases hc : A 20 q = -1
  · rw [if_pos hc, if_pos hc, q155_29]
  · rw [if_neg hc, if_neg hc, S81 s2 hl.1 h1 h2 hc, kb1, q155_28, s1, ii_sub, q155_29]
def mayA (A : AT) (e : Int) : Int := if 0 < A 35 e - A 0 5 then A 35 e - A 0 5 else 0
theorem S68 (hs : STv M s A) (hl : StL s) (hi : INV A T) (hT : T < 1000000) (h1 : 0 ≤ e) (h2 : e < A 0 1) : ev true 68 0 0 [pR 6 s, pI (ii e)] [] M X = some (.inl (some (pI (ii (mayA A e)))), M, X) := by
  obtain ⟨l0, l1, l2, l3, l4, l5, l6, l7, l8, l9, l10, l11, l12, l13, l14, l15, l16, l17⟩ := hl
  obtain ⟨s1, s2, s3, s4, s5, s6, s7, s8, s9, s10, s11, s12, s13, s14, s15, s16, s17⟩ := hs
  obtain ⟨i1, i2, i3, i4, i5, i6, i7, i8, i9, i10, i11, i12, -⟩ := hi.1
  obtain ⟨b1, b2, b3, b4, b5, b6, b7, b8, b9, b10⟩ := hi.2.1 e h1 h2
  have b11 : 0 ≤ A 35 e ∧ A 35 e ≤ T + 9 := by
    rcases Int.lt_or_le (A 33 e) 0 with h | h
    · rw [b9 h]; omega
    · rw [b10 h]; omega
  rw [q68_0, S12 (by omega) (by omega), kb1, q68_9, s14 e h1 h2, s1, ii_sub, i_0, ilt (by omega), q68_17]
  unfold mayA
  by_cases hc : 0 < A 35 e - A 0 5
  · rw [if_pos hc, if_pos hc]
  · rw [if_neg hc, if_neg hc]
theorem S156 (hp : PLv M p A) (hpl : PlL p) (hs : STv M s A) (hl : StL s) (hi : INV A T) (h1 : 0 ≤ q) (h2 : q < A 0 0) (h3 : 0 ≤ e) (h4 : e < 100) : ev true 156 0 0 [pR 6 s, pR 5 p, pI (ii q), pI (ii e), p0] [] M X = some (.inl (some (pI (bI (decide (A 20 q ≠ -1 ∧ A 26 (A 20 q) = e))))), M, X) := by
  obtain ⟨s1, ⟨tu, s2⟩, -⟩ := hs
  obtain ⟨l1, l2, l3, l4, l5, l6, l7, l8, l9, l10, l11, l12, l13, l14, l15, l16⟩ := hpl
  obtain ⟨p1, p2, p3, p4, p5, p6, p7, p8, p9, p10, p11, p12, p13, p14, p15, p16, p17⟩ := hp
  obtain ⟨i1, i2, i3, i4, i5, i6, i7, i8, i9, i10, i11, i12, -⟩ := hi.1
  obtain ⟨b1, b2, -⟩ := hi.2.2.2.2.2.2 q h1 h2
  rw [q156_0, S78 s2 hl.1 h1 h2, kb1, q156_8, ii_m1, ieq (by omega)]
  by_cases hc : A 20 q = -1
  · rw [if_pos hc, q156_33, i_0, q156_34, rk0, decide_eq_false (fun z => z.1 hc)]; rfl
  · obtain ⟨w1, w2, -⟩ := hi.2.2.1 (A 20 q) (by omega) b2
    rw [if_neg hc, S12 (by omega) (by omega), kb1, q156_25, p9 _ (by omega) b2, ieq (by omega)]
    by_cases hd : A 26 (A 20 q) = e
    · rw [if_pos hd, i_1, q156_34, rk1, decide_eq_true ⟨hc, hd⟩]; rfl
    · rw [if_neg hd, q156_33, i_0, q156_34, rk0, decide_eq_false (fun z => hd z.2)]; rfl
/-- a sum over the first ones -/
def smI (f : Int → Int) : Nat → Int
  | 0 => 0
  | n + 1 => smI f n + f n
def urgA (A : AT) (j : Int) : Int := smI (fun k => A 27 (A 60 (20 * j + k))) (A 44 j).toNat
theorem S70l (hp : PLv M p A) (hpl : PlL p) (hs : STv M s A) (hl : StL s) (hi : INV A T) (h1 : 0 ≤ j) (h2 : j < A 0 3) : ∀ (m : Nat) (n : Nat), (n : Int) + m = A 44 j → ev true 70 0 5 [pR 6 s, pR 5 p, pI (ii j), pI (ii (smI (fun k => A 27 (A 60 (20 * j + k))) n)), pI (ii n)] [] M X = some (.inl (some (pI (ii (urgA A j)))), M, X) := by
  have hs9 := hs
  obtain ⟨l0, l1, l2, l3, l4, l5, l6, l7, l8, l9, l10, l11, l12, l13, l14, l15, l16, l17⟩ := hl
  obtain ⟨s1, s2, s3, s4, s5, s6, s7, s8, s9, s10, s11, s12, s13, s14, s15, s16, s17⟩ := hs
  obtain ⟨m1, m2, m3, m4, m5, m6, m7, m8, m9, m10, m11, m12, m13, m14, m15, m16⟩ := hpl
  obtain ⟨p1, p2, p3, p4, p5, p6, p7, p8, p9, p10, p11, p12, p13, p14, p15, p16, p17⟩ := hp
  obtain ⟨i1, i2, i3, i4, i5, i6, i7, i8, i9, i10, i11, i12, -⟩ := hi.1
  obtain ⟨b1, b2, b3, b4, b5, b6, b7, b8, b9, b10, b11, b12, b13⟩ := hi.2.2.2.1 j h1 h2
  obtain ⟨c1, c2, c3, c4⟩ := s3 j h1 (by omega)
  intro m
  induction m with
  | zero =>
    intro n hn
    rw [q70_5, S12 (by omega) (by omega), kb1, q70_18, show cl M (s + 19) j = ii (A 44 j) from c3, ltF (by omega)]
    unfold urgA
    rw [show (A 44 j).toNat = n by omega]
  | succ m ih =>
    intro n hn
    obtain ⟨d1, d2⟩ := b13 n (by omega) (by omega)
    rw [q70_5, S12 (by omega) (by omega), kb1, q70_18, show cl M (s + 19) j = ii (A 44 j) from c3, ltT (by omega), i_20, ii_mul, ii_add, Int.mul_comm j 20, S12 (by omega) (by omega), kb1, q70_43, show cl M (s + 15) (20 * j + n) = ii (A 60 (20 * j + n)) from (c4 n (by omega) (by omega)).1, S12 (by omega) (by omega), kb1, q70_46, p10 _ d1 d2.1, ii_add, i_1, ii_add]
    exact ih (n + 1) (by omega)
theorem S70 (hp : PLv M p A) (hpl : PlL p) (hs : STv M s A) (hl : StL s) (hi : INV A T) (h1 : 0 ≤ j) (h2 : j < A 0 3) : ev true 70 0 0 [pR 6 s, pR 5 p, pI (ii j), p0, p0] [] M X = some (.inl (some (pI (ii (urgA A j)))), M, X) := by
  rw [q70_0]
  obtain ⟨b1, b2, b3, b4, b5, b6, b7, b8, b9, b10, b11, b12, b13⟩ := hi.2.2.2.1 j h1 h2
  exact S70l hp hpl hs hl hi h1 h2 (A 44 j).toNat 0 (by omega)
end LEA
