/-! the reference: what goes on the belt -/
section RGO
set_option maxRecDepth 100000
variable {u s p l t g : Nat} {j k q e w c T tu nx v off sh i z y n : Int} {A A' : AT} {M M' : Mem} {X : PX} {f : Nat}
theorem RR_c9 (h : RR M A) (he : ∀ f, f ≠ 35 → f ≠ 90 → A' f = A f) : RR M A' := by
  unfold RR R0 RX RWa RSi RCo RPl RPb RQu RLg
  simp (disch := decide) only [he]
  exact h
theorem S36g (h : RR M A) (hN : A 0 0 ≤ 40) (h1 : 0 ≤ q) (h2 : q < A 0 0) : ∃ M', ev true 36 0 0 [pR 13 819, pI (ii q), p0] [] M X = some (.inl none, M', X) ∧ RR M' (upA (clrA A q) 25 q (-1)) ∧ FrR M M' := by
  obtain ⟨M', t1, t2, t3⟩ := S36l (q := q) (X := X) (by omega) 6 0 M (by omega) (by omega)
  have lo : ∀ z, 0 ≤ z → (z < 174 + 6 * q ∨ 174 + 6 * q + 6 ≤ z) → rr M' z = rr M z := fun z hz hc => by rw [t3 z hz, if_neg (by omega)]
  have hi : ∀ z, 174 + 6 * q ≤ z → z < 174 + 6 * q + 6 → rr M' z = ii (-1) := fun z hz hc => by rw [t3 z (by omega), if_pos (by omega)]
  refine ⟨M', by rw [q36_0, i_0, t1], ?_, fun b _ a _ => t2 b a, fun k _ _ => by rw [t2 819 (by decide)], fun z hz hc => lo z hz (by omega)⟩
  obtain ⟨r0, rx, rw9, rs, rc, rp, rb, rq, rl9⟩ := h
  unfold RR R0 RX RWa RSi RCo RPl RPb RQu RLg clrA
  simp (disch := omega) only [upA_f]
  refine ⟨fun k a b => ?_, fun e a b => ?_, fun e a b => ?_, fun e a b => ?_, fun e a b => ?_, fun y a b => ?_, fun y k a0 a b c d => ?_, fun e k a b c d => ?_, fun e k a b c d => ?_⟩
  · rw [lo k a (by omega)]; exact r0 k a b
  · simp (disch := omega) only [lo]; exact rx e a b
  · simp (disch := omega) only [lo]; exact rw9 e a b
  · simp (disch := omega) only [lo]; exact rs e a b
  · simp (disch := omega) only [lo]; exact rc e a b
  · by_cases hy : y = q
    · subst hy
      simp (disch := omega) only [hi, upA_s, upA_n, if_true]
      exact ⟨trivial, trivial, trivial, fun h => absurd rfl h, trivial⟩
    · simp (disch := omega) only [lo, upA_s, upA_n, if_neg]
      exact rp y a b
  · rw [lo _ (by omega) (by omega)]; exact rb y k a0 a b c d
  · rw [lo _ (by omega) (by omega), lo _ (by omega) (by omega)]; exact rq e k a b c d
  · rw [lo _ (by omega) (by omega)]; exact rl9 e k a b c d
theorem S125 (h : RR M A) (hi : INV A T) (h1 : 0 ≤ q) (h2 : q < A 0 0) : ev true 125 0 0 [pR 13 819, pI (ii q)] [] M X = some (.inl (some (pI (bI (decide (A 20 q = -1 ∧ A 25 q = -1))))), M, X) := by
  have g := hi.1
  obtain ⟨y3, y4, y5, y6, y7, y8, y9, y10⟩ := hi.2.2.2.2.2.2 q h1 h2
  obtain ⟨p0, p1, p2, p34, p5⟩ := h.2.2.2.2.2.1 q h1 h2
  rw [q125_0, i_0, S24 (by omega), kb1, q125_6, p0, ii_m1, ieq (by omega)]
  by_cases c1 : A 20 q = -1
  · rw [if_pos c1, i_5, S24 (by omega), kb1, q125_16, p5, ii_m1, ieq (by omega)]
    by_cases c2 : A 25 q = -1
    · rw [if_pos c2, i_1, q125_25, rk1, decide_eq_true ⟨c1, c2⟩]; rfl
    · rw [if_neg c2, q125_24, i_0, q125_25, rk0, decide_eq_false (fun z => c2 z.2)]; rfl
  · rw [if_neg c1, q125_24, i_0, q125_25, rk0, decide_eq_false (fun z => c1 z.1)]; rfl
theorem S126l (hj : 0 ≤ j ∧ j < 6) (hn : 1 ≤ n ∧ n ≤ 20) (h4 : rr M (66 + 10 * j + 4) = ii n) {z2 z3 : PV} {x4 : Int32} : ∀ (m : Nat) (x : Int) (M1 : Mem), x + m = 414 + 2 * (20 * j) + 2 * n - 2 → 414 + 2 * (20 * j) ≤ x → (∀ b, b ≠ 820 → M1 b = M b) → (∀ z, 0 ≤ z → rr M1 z = if 414 + 2 * (20 * j) ≤ z ∧ z < x then rr M (z + 2) else rr M z) → ∃ M2, ev true 126 0 109 [pR 13 819, pI (ii j), z2, z3, pI x4, pI (ii x)] [] M1 X = ev true 126 0 124 [pR 13 819, pI (ii j), z2, z3, pI x4, pI (ii (414 + 2 * (20 * j) + 2 * n - 2))] [pI (ii n), pI (ii 2), pI (ii (414 + 2 * (20 * j))), pI (ii (414 + 2 * (20 * j) + 2 * n - 2))] M2 X ∧ (∀ b, b ≠ 820 → M2 b = M b) ∧ ∀ z, 0 ≤ z → rr M2 z = if 414 + 2 * (20 * j) ≤ z ∧ z < 414 + 2 * (20 * j) + 2 * n - 2 then rr M (z + 2) else rr M z := by
  intro m
  induction m with
  | zero =>
    intro x M1 h1 h2 h3 h5
    have hx : x = 414 + 2 * (20 * j) + 2 * n - 2 := by omega
    subst hx
    refine ⟨M1, ?_, h3, h5⟩
    rw [q126_109, i_0, S26, kb1, q126_117, i_4, S25 (by omega), kb1, h5 _ (by omega), if_neg (by omega), h4, i_2, Int.add_zero]
  | succ m ih =>
    intro x M1 h1 h2 h3 h5
    obtain ⟨M2, t1, t2, t3⟩ := ih (x + 1) (sr M1 x (rr M1 (x + 2))) (by omega) (by omega) (fun b hb => by rw [sr_n hb, h3 b hb]) (fun z hz => by
      rw [rr_sr (by omega) hz]
      by_cases hzx : z = x
      · subst hzx
        rw [if_pos rfl, if_pos (by omega), h5 (z + 2) (by omega), if_neg (by omega)]
      · rw [if_neg hzx, h5 z hz]
        by_cases hc : 414 + 2 * (20 * j) ≤ z ∧ z < x
        · rw [if_pos hc, if_pos (by omega)]
        · rw [if_neg hc, if_neg (by omega)])
    refine ⟨M2, ?_, t2, t3⟩
    rw [q126_109, i_0, S26, kb1, q126_117, i_4, S25 (by omega), kb1, h5 (66 + 10 * j + 4) (by omega), if_neg (by omega), h4, i_2, Int.add_zero, q126_124, ii_mul, ii_add, i_2, ii_sub, ltT (by omega), ii_add, inR (by omega), inR (by omega), rr_i M1 (by omega), sr_i (M := M1) (by omega), i_1, ii_add, t1]
theorem goA_46 (y : Int) : goA A j q 46 y = if y = j then A 46 j + 1 else A 46 y := by
  unfold goA
  rw [upA_n (by decide), upA_s, dropA_f (by decide) (by decide) (by decide), seaA_f (by omega)]
theorem goA_23 (y : Int) : goA A j q 23 y = if y = q then A 0 5 else A 23 y := by
  unfold goA
  rw [upA_n (by decide), upA_n (by decide), dropA_f (by decide) (by decide) (by decide)]
  unfold seaA
  simp (disch := omega) only [upA_n, upA_s]
theorem goA_24 (y : Int) : goA A j q 24 y = if y = q then lateA A j else A 24 y := by
  unfold goA
  rw [upA_n (by decide), upA_n (by decide), dropA_f (by decide) (by decide) (by decide)]
  unfold seaA
  simp (disch := omega) only [upA_n, upA_s]
theorem RR_go {A0 : AT} (hr : RR M A0) (hi : INV A T) (he : ∀ f, f ≠ 25 → f ≠ 90 → A f = A0 f) (h25 : ∀ y, A 25 y = if y = q then -1 else A0 25 y) (h1 : 0 ≤ j) (h2 : j < A 0 3) (hq : 0 ≤ q) (hq2 : q < A 0 0) (h44 : 0 < A 44 j)
    (lo : ∀ z, 0 ≤ z → (z < 174 + 6 * q ∨ 174 + 6 * q + 6 ≤ z) → z ≠ 66 + 10 * j + 4 → z ≠ 66 + 10 * j + 6 → z ≠ 66 + 10 * j + 9 → rr M' z = if 414 + 2 * (20 * j) ≤ z ∧ z < 414 + 2 * (20 * j) + 2 * A 44 j - 2 then rr M (z + 2) else rr M z)
    (g0 : rr M' (174 + 6 * q + 0) = ii (A 60 (20 * j))) (g1 : rr M' (174 + 6 * q + 1) = ii j) (g2 : rr M' (174 + 6 * q + 2) = ii 0) (g3 : rr M' (174 + 6 * q + 3) = ii (A 0 5)) (g4 : rr M' (174 + 6 * q + 4) = ii (lateA A j)) (g5 : rr M' (174 + 6 * q + 5) = ii (-1))
    (k4 : rr M' (66 + 10 * j + 4) = ii (A 44 j - 1)) (k6 : rr M' (66 + 10 * j + 6) = ii (A 46 j + 1)) (k9 : rr M' (66 + 10 * j + 9) = ii (lonA A j)) : RR M' (goA A j q) := by
  obtain ⟨i1, i2, i3, i4, i5, i6, i7, i8, i9, i10, i11, i12, -⟩ := hi.1
  obtain ⟨d1, d2, d3, d4, d5, d6, d7, d8, d9, d10, d11, d12, d13⟩ := hi.2.2.2.1 j h1 h2
  obtain ⟨r0, rx, rw9, rs, rc, rp, rb, rq, rl9⟩ := hr
  unfold R0 at r0
  unfold RX at rx
  unfold RWa at rw9
  unfold RSi at rs
  unfold RCo at rc
  unfold RPl at rp
  unfold RPb at rb
  unfold RQu at rq
  unfold RLg at rl9
  simp (disch := decide) only [← he] at r0 rx rw9 rs rc rp rb rq rl9
  have hsz : ∀ e, 0 ≤ e → e < 6 → 0 ≤ A 44 e ∧ A 44 e ≤ 20 := fun e a b => by
    rcases Int.lt_or_le e (A 0 3) with h | h
    · obtain ⟨-, -, -, -, -, -, -, -, q9, q10, -⟩ := hi.2.2.2.1 e a h
      exact ⟨q9, q10⟩
    · rw [hi.2.2.2.2.1 e h b]; omega
  have l2 : ∀ z, 0 ≤ z → (z < 174 + 6 * q ∨ 174 + 6 * q + 6 ≤ z) → z ≠ 66 + 10 * j + 4 → z ≠ 66 + 10 * j + 6 → z ≠ 66 + 10 * j + 9 → (z < 414 + 2 * (20 * j) ∨ 414 + 2 * (20 * j) + 2 * A 44 j - 2 ≤ z) → rr M' z = rr M z := fun z a b c d e f => by rw [lo z a b c d e, if_neg (by omega)]
  unfold RR R0 RX RWa RSi RCo RPl RPb RQu RLg
  simp (disch := omega) only [goA_f, goA_20, goA_21, goA_22, goA_23, goA_24, goA_44, goA_46, goA_49]
  refine ⟨fun k a b => ?_, fun e a b => ?_, fun e a b => ?_, fun e a b => ?_, fun e a b => ?_, fun y a b => ?_, fun y k a0 a b c d => ?_, fun e k a b c d => ?_, fun e k a b c d => ?_⟩
  · rw [l2 k a (by omega) (by omega) (by omega) (by omega) (by omega)]; exact r0 k a b
  · simp (disch := omega) only [l2]; exact rx e a b
  · simp (disch := omega) only [l2]; exact rw9 e a b
  · obtain ⟨v0, v1, v2, v3, v4, v5, v6, v7, v8, v9⟩ := rs e a b
    by_cases hy : e = j
    · subst hy
      simp (disch := omega) only [l2, if_true, k4, k6, k9]
      exact ⟨v0, v1, v2, v3, trivial, v5, trivial, v7, v8, trivial⟩
    · simp (disch := omega) only [l2, if_neg]
      exact ⟨v0, v1, v2, v3, v4, v5, v6, v7, v8, v9⟩
  · simp (disch := omega) only [l2]; exact rc e a b
  · by_cases hy : y = q
    · subst hy
      rw [h25 y]
      simp only [if_true, g0, g1, g2, g3, g4, g5]
      exact ⟨trivial, trivial, trivial, fun _ => ⟨trivial, trivial⟩, trivial⟩
    · have h9 := rp y a b
      rw [h25 y]
      simp (disch := omega) only [l2, if_neg]
      exact h9
  · rw [l2 _ (by omega) (by omega) (by omega) (by omega) (by omega) (by omega)]; exact rb y k a0 a b c d
  · have hz := hsz e a b
    rw [goA_60 (Or.inl rfl), goA_60 (Or.inr rfl)]
    by_cases hy : e = j
    · subst hy
      rw [if_pos rfl] at d
      have h9 := rq e (k + 1) a b (by omega) (by omega)
      rw [if_pos (by omega), if_pos (by omega), lo _ (by omega) (by omega) (by omega) (by omega) (by omega), lo _ (by omega) (by omega) (by omega) (by omega) (by omega), if_pos (by omega), if_pos (by omega), show 414 + 2 * (20 * e + k) + 2 = 414 + 2 * (20 * e + (k + 1)) by omega, show 414 + 2 * (20 * e + k) + 1 + 2 = 414 + 2 * (20 * e + (k + 1)) + 1 by omega, show 20 * e + k + 1 = 20 * e + (k + 1) by omega]
      exact h9
    · rw [if_neg hy] at d
      have h9 := rq e k a b c d
      rw [if_neg (by omega), if_neg (by omega), l2 _ (by omega) (by omega) (by omega) (by omega) (by omega) (by omega), l2 _ (by omega) (by omega) (by omega) (by omega) (by omega) (by omega)]
      exact h9
  · rw [l2 _ (by omega) (by omega) (by omega) (by omega) (by omega) (by omega)]; exact rl9 e k a b c d
theorem S126 {A0 : AT} (hr : RR M A0) (hi : INV A T) (he : ∀ f, f ≠ 25 → f ≠ 90 → A f = A0 f) (h25 : ∀ y, A 25 y = if y = q then -1 else A0 25 y) (h1 : 0 ≤ j) (h2 : j < A 0 3) (hq : 0 ≤ q) (hq2 : q < A 0 0) (h44 : 0 < A 44 j) (hT : T < 1000000) : ∃ M', ev true 126 0 0 [pR 13 819, pI (ii j), pI (ii q), p0, p0, p0] [] M X = some (.inl none, M', X) ∧ RR M' (goA A j q) ∧ FrR M M' := by
  obtain ⟨i1, i2, i3, i4, i5, i6, i7, i8, i9, i10, i11, i12, -⟩ := hi.1
  obtain ⟨d1, d2, d3, d4, d5, d6, d7, d8, d9, d10, d11, d12, d13⟩ := hi.2.2.2.1 j h1 h2
  have hla := late_in hi h1 h2
  have hl : lateA A j = A 0 5 - A 61 (20 * j) := by unfold lateA; rw [if_pos h44]
  have t5 : rr M 5 = ii (A 0 5) := by rw [hr.1 5 (by omega) (by omega), he 0 (by decide) (by decide)]
  have hs := hr.2.2.2.1 j h1 (by omega)
  rw [← he 44 (by decide) (by decide), ← he 46 (by decide) (by decide), ← he 49 (by decide) (by decide)] at hs
  obtain ⟨v0, v1, v2, v3, v4, v5, v6, v7, v8, v9⟩ := hs
  have hqu := hr.2.2.2.2.2.2.2.1 j 0 h1 (by omega) (by omega) (by rw [← he 44 (by decide) (by decide)]; exact h44)
  rw [← he 60 (by decide) (by decide), ← he 61 (by decide) (by decide), Int.add_zero] at hqu
  obtain ⟨q0, q1⟩ := hqu
  obtain ⟨M1, e1⟩ : ∃ M1, M1 = sr (sr (sr M (174 + 6 * q + 0) (ii (A 60 (20 * j)))) (174 + 6 * q + 1) (ii j)) (174 + 6 * q + 2) (ii 0) := ⟨_, rfl⟩
  obtain ⟨M2, e2⟩ : ∃ M2, M2 = sr (sr (sr M1 (174 + 6 * q + 3) (ii (A 0 5))) (174 + 6 * q + 4) (ii (lateA A j))) (174 + 6 * q + 5) (ii (-1)) := ⟨_, rfl⟩
  have t51 : M1 820 5 = ii (A 0 5) := by
    show rr M1 5 = _
    rw [e1]; simp (disch := omega) only [rr_sr, if_neg]; exact t5
  have lo2 : ∀ z, 0 ≤ z → (z < 174 + 6 * q ∨ 174 + 6 * q + 6 ≤ z) → rr M2 z = rr M z := fun z hz hc => by
    rw [e2, e1]; simp (disch := omega) only [rr_sr, if_neg]
  obtain ⟨M3, b1, b2, b3⟩ := S126l (M := M2) (X := X) (j := j) (n := A 44 j) (z2 := pI (ii q)) (z3 := pI (ii (174 + 6 * q))) (x4 := ii (lateA A j)) (by omega) (by omega) (by rw [lo2 _ (by omega) (by omega)]; exact v4) (2 * A 44 j - 2).toNat (414 + 2 * (20 * j)) M2 (by omega) (by omega) (fun _ _ => rfl) (fun z hz => by rw [if_neg (by omega)])
  have lo3 : ∀ z, 0 ≤ z → z < 414 → rr M3 z = rr M2 z := fun z hz hc => by rw [b3 z hz, if_neg (by omega)]
  obtain ⟨M4, e4⟩ : ∃ M4, M4 = sr M3 (66 + 10 * j + 4) (ii (A 44 j - 1)) := ⟨_, rfl⟩
  obtain ⟨M5, e5⟩ : ∃ M5, M5 = sr M4 (66 + 10 * j + 6) (ii (A 46 j + 1)) := ⟨_, rfl⟩
  have lo5 : ∀ z, 0 ≤ z → z ≠ 66 + 10 * j + 4 → z ≠ 66 + 10 * j + 6 → rr M5 z = rr M3 z := fun z hz c d => by
    rw [e5, e4]; simp (disch := omega) only [rr_sr, if_neg]
  have u4 : rr M3 (66 + 10 * j + 4) = ii (A 44 j) := by rw [lo3 _ (by omega) (by omega), lo2 _ (by omega) (by omega)]; exact v4
  have u6 : rr M4 (66 + 10 * j + 6) = ii (A 46 j) := by rw [e4]; simp (disch := omega) only [rr_sr, if_neg]; rw [lo3 _ (by omega) (by omega), lo2 _ (by omega) (by omega)]; exact v6
  have u9 : rr M5 (66 + 10 * j + 9) = ii (A 49 j) := by rw [lo5 _ (by omega) (by omega) (by omega), lo3 _ (by omega) (by omega), lo2 _ (by omega) (by omega)]; exact v9
  have hlon : (if A 49 j < lateA A j then ii (lateA A j) else ii (A 49 j)) = ii (lonA A j) := by
    unfold lonA
    by_cases c1 : A 49 j < lateA A j
    · rw [if_pos c1, if_neg (by omega)]
    · rw [if_neg c1]
      by_cases c2 : lateA A j < A 49 j
      · rw [if_pos c2]
      · rw [if_neg c2, show A 49 j = lateA A j by omega]
  refine ⟨sr M5 (66 + 10 * j + 9) (ii (lonA A j)), ?_, ?_, ?_⟩
  · rw [q126_0, i_5, inR (by omega), i_0, S26, kb1, q126_25, i_1, ii_add, show M 820 5 = ii (A 0 5) from t5, Int.add_zero, inR (by omega), rr_i M (by omega), q1, ii_sub, ← hl, i_174, i_6, ii_mul, ii_add, i_0, S26, kb1, q126_48, Int.add_zero, inR (by omega), rr_i M (by omega), q0, ii_m1, i_0, i_1, i_2, i_3, i_4, i_5, ii_add, ii_add, ii_add, ii_add, ii_add, ii_add, inR (by omega), inR (by omega), inR (by omega), inR (by omega), inR (by omega), inR (by omega), inR (by omega), Int.add_zero, sr_i (M := M) (by omega), (show sr M (174 + 6 * q) (ii (A 60 (20 * j))) = sr M (174 + 6 * q + 0) (ii (A 60 (20 * j))) by rw [Int.add_zero]), sr_i (M := sr M (174 + 6 * q + 0) (ii (A 60 (20 * j)))) (by omega), sr_i (M := sr (sr M (174 + 6 * q + 0) (ii (A 60 (20 * j)))) (174 + 6 * q + 1) (ii j)) (by omega), ← e1, t51, sr_i (M := M1) (by omega), sr_i (M := sr M1 (174 + 6 * q + 3) (ii (A 0 5))) (by omega), sr_i (M := sr (sr M1 (174 + 6 * q + 3) (ii (A 0 5))) (174 + 6 * q + 4) (ii (lateA A j))) (by omega), ← e2, S26, kb1, q126_107, Int.add_zero, b1, q126_124, ii_mul, ii_add, i_2, ii_sub, ltF (by omega), i_66, i_10, i_4, i_6, i_9, ii_mul, ii_add, ii_add, ii_add, ii_add, inR (by omega), inR (by omega), inR (by omega), inR (by omega), inR (by omega), rr_i M3 (by omega), u4, i_1, ii_sub, sr_i (M := M3) (by omega), ← e4, rr_i M4 (by omega), u6, ii_add, sr_i (M := M4) (by omega), ← e5, rr_i M5 (by omega), u9, ilt (by omega), hlon, q126_213, inR (by omega), sr_i (M := M5) (by omega)]
  · have z : ∀ z, 0 ≤ z → z ≠ 66 + 10 * j + 9 → z ≠ 66 + 10 * j + 4 → z ≠ 66 + 10 * j + 6 → rr (sr M5 (66 + 10 * j + 9) (ii (lonA A j))) z = rr M3 z := fun z a b c d => by rw [rr_sr (by omega) a, if_neg b]; exact lo5 z a c d
    have g : ∀ z, 174 ≤ z → z < 414 → rr (sr M5 (66 + 10 * j + 9) (ii (lonA A j))) z = rr M2 z := fun y a b => by rw [z y (by omega) (by omega) (by omega) (by omega)]; exact lo3 y (by omega) b
    refine RR_go hr hi he h25 h1 h2 hq hq2 h44 ?_ ?_ ?_ ?_ ?_ ?_ ?_ ?_ ?_ ?_
    · intro y a b c d e
      rw [z y a e c d, b3 y a]
      by_cases c1 : 414 + 2 * (20 * j) ≤ y ∧ y < 414 + 2 * (20 * j) + 2 * A 44 j - 2
      · rw [if_pos c1, if_pos c1, lo2 _ (by omega) (by omega)]
      · rw [if_neg c1, if_neg c1, lo2 _ (by omega) (by omega)]
    · rw [g _ (by omega) (by omega), e2, e1]; simp (disch := omega) only [rr_sr, if_neg, if_true]
    · rw [g _ (by omega) (by omega), e2, e1]; simp (disch := omega) only [rr_sr, if_neg, if_true]
    · rw [g _ (by omega) (by omega), e2, e1]; simp (disch := omega) only [rr_sr, if_neg, if_true]
    · rw [g _ (by omega) (by omega), e2, e1]; simp (disch := omega) only [rr_sr, if_neg, if_true]
    · rw [g _ (by omega) (by omega), e2, e1]; simp (disch := omega) only [rr_sr, if_neg, if_true]
    · rw [g _ (by omega) (by omega), e2, e1]; simp (disch := omega) only [rr_sr, if_neg, if_true]
    · rw [e5, e4]; simp (disch := omega) only [rr_sr, if_neg, if_true]
    · rw [e5]; simp (disch := omega) only [rr_sr, if_neg, if_true]
    · rw [rr_sr (by omega) (by omega), if_pos rfl]
  · have f3 : FrR M2 M3 := ⟨fun b _ a _ => b2 b a, fun k _ _ => by rw [b2 819 (by decide)], fun z hz hc => by rw [b3 z hz, if_neg (by omega)]⟩
    have f2 : FrR M M2 := by
      rw [e2, e1]
      exact (((((FrR.sr (by omega) (by omega)).tr (FrR.sr (by omega) (by omega))).tr (FrR.sr (by omega) (by omega))).tr (FrR.sr (by omega) (by omega))).tr (FrR.sr (by omega) (by omega))).tr (FrR.sr (by omega) (by omega))
    have f5 : FrR M3 (sr M5 (66 + 10 * j + 9) (ii (lonA A j))) := by
      rw [e5, e4]
      exact ((FrR.sr (by omega) (by omega)).tr (FrR.sr (by omega) (by omega))).tr (FrR.sr (by omega) (by omega))
    exact (f2.tr f3).tr f5
theorem S183b (h : WR M A T) (h1 : 0 ≤ j) (h2 : j < A 0 3) {z3 z4 : PV} : ∃ M' z3' z4', ev true 183 0 2 [pR 13 819, pI (ii j), z3, z4] [] M X = ev true 183 0 2 [pR 13 819, pI (ii (j + 1)), z3', z4'] [] M' X ∧ WR M' (sideA A j) T ∧ FrR M M' := by
  have hw := h
  obtain ⟨hr, hi, hT, hh⟩ := h
  obtain ⟨g1, g2, g3, g4, g5, g6, g7, g8, g9, g10, g11, g12, g13, g14, g15⟩ := hi.1
  obtain ⟨d1, d2, d3, d4, d5, d6, d7, d8, d9, d10, d11, d12, d13⟩ := hi.2.2.2.1 j h1 h2
  obtain ⟨y3, y4, y5, y6, y7, y8, y9, y10⟩ := hi.2.2.2.2.2.2 (A 40 j) d1 d2
  obtain ⟨p0, p1, p2, p34, p5⟩ := hr.2.2.2.2.2.1 (A 40 j) d1 d2
  obtain ⟨v0, v1, v2, v3, v4, v5, v6, v7, v8, v9⟩ := hr.2.2.2.1 j h1 (by omega)
  have t3 : M 820 3 = ii (A 0 3) := hr.1 3 (by omega) (by omega)
  have sI := side_INV hi h1 h2
  have sH := side_HLD hh hi h1 h2
  rw [q183_2, i_3, inR (by omega), t3, ltT (by omega), i_0, S25 (by omega), kb1, q183_18, v0, i_5, S24 (by omega), kb1, q183_25, p5, ieq (by omega)]
  by_cases c1 : A 25 (A 40 j) = j
  · rw [if_pos c1, i_1, q183_34, i_0, eqF (by omega), q183_50, i_4, S25 (by omega), kb1, q183_56, v4, i_0, ilt (by omega)]
    have hri : INV (relA A j (A 40 j)) T := rel_INV hi
    by_cases c2 : 0 < A 44 j
    · obtain ⟨M1, a1, a2, a3⟩ := S126 (X := X) (A := relA A j (A 40 j)) (A0 := A) (j := j) (q := A 40 j) hr hri (fun f a b => relA_f a b) (fun y => relA_25 y) h1 (by rw [relA_f (by decide) (by decide)]; exact h2) d1 (by rw [relA_f (by decide) (by decide)]; exact d2) (by rw [relA_f (by decide) (by decide)]; exact c2) hT
      have e : sideA A j = goA (relA A j (A 40 j)) j (A 40 j) := by
        unfold sideA gonA
        rw [if_pos c1, if_pos (by rw [relA_f (by decide) (by decide)]; exact c2)]
      rw [e] at sI sH ⊢
      refine ⟨M1, pI (ii (A 40 j)), pI (ii 1), ?_, ⟨a2, sI, hT, sH⟩, a3⟩
      · rw [if_pos c2, a1, kb0, q183_65, q183_77, i_1, ii_add]
    · obtain ⟨M1, a1, a2, a3⟩ := S36g (X := X) (q := A 40 j) hr (by omega) d1 d2
      have e : sideA A j = relA A j (A 40 j) := by
        unfold sideA gonA
        rw [if_pos c1, if_neg (by rw [relA_f (by decide) (by decide)]; exact c2)]
      have h20 : A 20 (A 40 j) = -1 := by
        rcases Classical.em (A 20 (A 40 j) = -1) with h | h
        · exact h
        · have := (y9 h).2; omega
      rw [e] at sI sH ⊢
      refine ⟨M1, pI (ii (A 40 j)), pI (ii 1), ?_, ⟨RR_c9 a2 (fun f f1 f2 => ?_), sI, hT, sH⟩, a3⟩
      · rw [if_neg c2, eqF (by omega), a1, kb0, q183_77, i_1, ii_add]
      · unfold relA clrA
        rw [upA_f f2]
        funext y
        unfold upA
        by_cases e25 : f = 25 ∧ y = A 40 j
        · rw [if_pos e25, if_pos e25]
        · rw [if_neg e25, if_neg e25]
          by_cases e22 : f = 22 ∧ y = A 40 j
          · rw [if_pos e22, e22.1, e22.2, (y10 h20).2]
          · rw [if_neg e22]
            by_cases e21 : f = 21 ∧ y = A 40 j
            · rw [if_pos e21, e21.1, e21.2, (y10 h20).1]
            · rw [if_neg e21]
              by_cases e20 : f = 20 ∧ y = A 40 j
              · rw [if_pos e20, e20.1, e20.2, h20]
              · rw [if_neg e20]
  · rw [if_neg c1, i_0, q183_34, i_0, eqT rfl, S125 hr hi d1 d2, kb1, q183_44, i_0, bIT]
    by_cases c2 : A 20 (A 40 j) = -1 ∧ A 25 (A 40 j) = -1
    · rw [decide_eq_true c2, cond_true, q183_50, i_4, S25 (by omega), kb1, q183_56, v4, i_0, ilt (by omega)]
      by_cases c3 : 0 < A 44 j
      · obtain ⟨M1, a1, a2, a3⟩ := S126 (X := X) (A := A) (A0 := A) (j := j) (q := A 40 j) hr hi (fun f a b => rfl) (fun y => by
          by_cases hy : y = A 40 j
          · rw [if_pos hy, hy, c2.2]
          · rw [if_neg hy]) h1 h2 d1 d2 c3 hT
        have e : sideA A j = goA A j (A 40 j) := by
          unfold sideA gonA
          rw [if_neg c1, if_pos c2, if_pos c3]
        rw [e] at sI sH ⊢
        refine ⟨M1, pI (ii (A 40 j)), pI (ii 0), ?_, ⟨a2, sI, hT, sH⟩, a3⟩
        · rw [if_pos c3, a1, kb0, q183_65, q183_77, i_1, ii_add]
      · have e : sideA A j = A := by
          unfold sideA gonA
          rw [if_neg c1, if_pos c2, if_neg c3]
        rw [e, if_neg c3, eqT rfl, q183_77, i_1, ii_add]
        exact ⟨M, _, _, rfl, hw, FrR.rf⟩
    · have e : sideA A j = A := by
        unfold sideA
        rw [if_neg c1, if_neg c2]
      rw [e, decide_eq_false c2, cond_false, q183_77, i_1, ii_add]
      exact ⟨M, _, _, rfl, hw, FrR.rf⟩
theorem S183l : ∀ (m : Nat) (j : Int) (A : AT) (M : Mem) (z3 z4 : PV), j + m = A 0 3 → 0 ≤ j → WR M A T → ∃ M', ev true 183 0 2 [pR 13 819, pI (ii j), z3, z4] [] M X = some (.inl none, M', X) ∧ WR M' (sidesA m j A) T ∧ FrR M M' := by
  intro m
  induction m with
  | zero =>
    intro e A M z3 z4 h1 h2 h
    have t3 : M 820 3 = ii (A 0 3) := h.1.1 3 (by omega) (by omega)
    have g := h.2.1.1
    exact ⟨M, by rw [q183_2, i_3, inR (by omega), t3, ltF (by omega)], h, FrR.rf⟩
  | succ m ih =>
    intro e A M z3 z4 h1 h2 h
    obtain ⟨M1, z3', z4', r1, r2, r3⟩ := S183b (X := X) (z3 := z3) (z4 := z4) h h2 (by omega)
    obtain ⟨M2, t1, t2, t3⟩ := ih (e + 1) (sideA A e) M1 z3' z4' (by rw [side_SP.2.2.2.1]; omega) (by omega) r2
    exact ⟨M2, by rw [r1, t1], t2, r3.tr t3⟩
theorem S183 (h : WR M A T) : ∃ M', ev true 183 0 0 [pR 13 819, p0, p0, p0] [] M X = some (.inl none, M', X) ∧ WR M' (allSidesA A) T ∧ FrR M M' := by
  have g := h.2.1.1
  obtain ⟨M', t1, t2, t3⟩ := S183l (X := X) (A 0 3).toNat 0 A M p0 p0 (by omega) (by omega) h
  exact ⟨M', by rw [q183_0, i_0, t1], t2, t3⟩
end RGO
