/-! what goes on the belt -/
section GOO
set_option maxRecDepth 100000
variable {u s p l t g : Nat} {j k q e w c T n tu nx v off : Int} {A A' : AT} {M M' : Mem} {X : PX} {f : Nat}
theorem dropA_f (h1 : f ≠ 44) (h2 : f ≠ 60) (h3 : f ≠ 61) : dropA A j f = A f := by
  funext y
  unfold dropA
  rw [if_neg (by omega), if_neg (by omega)]
def seaA (A : AT) (q w j wt : Int) : AT := upA (upA (upA (upA (upA A 20 q w) 21 q j) 22 q 0) 23 q (A 0 5)) 24 q wt
theorem seaA_f (h : f < 20 ∨ 24 < f) : seaA A q w j v f = A f := by
  unfold seaA
  rw [upA_f (by omega), upA_f (by omega), upA_f (by omega), upA_f (by omega), upA_f (by omega)]
def lonA (A : AT) (j : Int) : Int := if lateA A j < A 49 j then A 49 j else lateA A j
def goA (A : AT) (j q : Int) : AT := upA (upA (dropA (seaA A q (A 60 (20 * j)) j (lateA A j)) j) 46 j (A 46 j + 1)) 49 j (lonA A j)
def relA (A : AT) (j q : Int) : AT := upA (upA A 25 q (-1)) 90 j (A 90 j - 1)
def gonA (A : AT) (j q : Int) : AT := if 0 < A 44 j then goA A j q else A
def sideA (A : AT) (j : Int) : AT := if A 25 (A 40 j) = j then gonA (relA A j (A 40 j)) j (A 40 j) else if A 20 (A 40 j) = -1 ∧ A 25 (A 40 j) = -1 then gonA A j (A 40 j) else A
theorem goA_f (h1 : f < 20 ∨ 24 < f) (h2 : f ≠ 44) (h3 : f ≠ 46) (h4 : f ≠ 49) (h5 : f ≠ 60) (h6 : f ≠ 61) : goA A j q f = A f := by
  unfold goA
  rw [upA_f h4, upA_f h3, dropA_f h2 h5 h6, seaA_f h1]
theorem goA_20 (y : Int) : goA A j q 20 y = if y = q then A 60 (20 * j) else A 20 y := by
  unfold goA
  rw [upA_n (by decide), upA_n (by decide), dropA_f (by decide) (by decide) (by decide)]
  unfold seaA
  simp (disch := omega) only [upA_n, upA_s]
theorem goA_21 (y : Int) : goA A j q 21 y = if y = q then j else A 21 y := by
  unfold goA
  rw [upA_n (by decide), upA_n (by decide), dropA_f (by decide) (by decide) (by decide)]
  unfold seaA
  simp (disch := omega) only [upA_n, upA_s]
theorem goA_22 (y : Int) : goA A j q 22 y = if y = q then 0 else A 22 y := by
  unfold goA
  rw [upA_n (by decide), upA_n (by decide), dropA_f (by decide) (by decide) (by decide)]
  unfold seaA
  simp (disch := omega) only [upA_n, upA_s]
theorem goA_49 (y : Int) : goA A j q 49 y = if y = j then lonA A j else A 49 y := by
  unfold goA
  rw [upA_s, upA_f (by decide), dropA_f (by decide) (by decide) (by decide), seaA_f (by omega)]
theorem goA_44 (y : Int) : goA A j q 44 y = if y = j then A 44 j - 1 else A 44 y := by
  unfold goA
  rw [upA_n (by decide), upA_n (by decide)]
  unfold dropA
  rw [if_neg (by omega), seaA_f (by omega)]
  by_cases h : y = j
  · rw [if_pos ⟨rfl, h⟩, if_pos h]
  · rw [if_neg (fun z => h z.2), if_neg h]
theorem goA_60 (hf : f = 60 ∨ f = 61) (y : Int) : goA A j q f y = if 20 * j ≤ y ∧ y < 20 * j + (A 44 j - 1) then A f (y + 1) else A f y := by
  unfold goA
  rw [upA_n (by omega), upA_n (by omega)]
  unfold dropA
  rw [seaA_f (by omega), seaA_f (by omega)]
  by_cases h : 20 * j ≤ y ∧ y < 20 * j + (A 44 j - 1)
  · rw [if_pos ⟨hf, h⟩, if_pos h]
  · rw [if_neg (fun z => h z.2), if_neg (fun z => by omega), if_neg h]
theorem go_SP : SP A (goA A j q) := by
  refine ⟨?_, ?_, ?_, ?_, ?_, ?_, ?_, ?_, ?_, ?_, ?_, ?_, ?_, ?_, ?_, ?_, ?_⟩ <;> simp (disch := omega) only [goA_f]
theorem go_INV (hi : INV A T) (h1 : 0 ≤ j) (h2 : j < A 0 3) (hq : 0 ≤ q ∧ q < A 0 0) (h25 : A 25 q = -1) (h44 : 0 < A 44 j) : INV (goA A j q) T := by
  have hla := late_in hi h1 h2
  obtain ⟨g, x, wx, sx, z, cx, px⟩ := hi
  obtain ⟨d1, d2, d3, d4, d5, d6, d7, d8, d9, d10, d11, d12, d13⟩ := sx j h1 h2
  have hl : 0 ≤ lonA A j ∧ lonA A j ≤ A 0 5 := by unfold lonA; split <;> omega
  unfold INV
  simp (disch := omega) only [goA_f, goA_20, goA_21, goA_22, goA_49, goA_44]
  refine ⟨g, x, wx, fun y y1 y2 => ?_, fun y y1 y2 => ?_, cx, fun y y1 y2 => ?_⟩
  · obtain ⟨b1, b2, b3, b4, b5, b6, b7, b8, b9, b10, b11, b12, b13⟩ := sx y y1 y2
    by_cases hy : y = j
    · subst hy
      simp only [if_true]
      refine ⟨b1, b2, b3, b4, b5, b6, b7, b8, by omega, by omega, hl.1, hl.2, fun k k1 k2 => ?_⟩
      rw [goA_60 (Or.inl rfl), goA_60 (Or.inr rfl), if_pos (by omega), if_pos (by omega), show 20 * y + k + 1 = 20 * y + (k + 1) by omega]
      exact b13 (k + 1) (by omega) (by omega)
    · simp only [if_neg hy]
      refine ⟨b1, b2, b3, b4, b5, b6, b7, b8, b9, b10, b11, b12, fun k k1 k2 => ?_⟩
      rw [goA_60 (Or.inl rfl), goA_60 (Or.inr rfl), if_neg (by omega), if_neg (by omega)]
      exact b13 k k1 k2
  · rw [if_neg (by omega)]
    exact z y y1 y2
  · obtain ⟨y3, y4, y5, y6, y7, y8, y9, y10⟩ := px y y1 y2
    have hw := d13 0 (Int.le_refl 0) h44
    rw [Int.add_zero] at hw
    by_cases hy : y = q
    · subst hy
      simp only [if_true]
      exact ⟨by omega, by omega, by omega, by omega, y7, y8, fun _ => ⟨h1, h25⟩, fun h => by omega⟩
    · simp only [if_neg hy]
      exact ⟨y3, y4, y5, y6, y7, y8, y9, y10⟩
theorem rel_SP : SP A (relA A j q) := by
  unfold relA
  refine ⟨?_, ?_, ?_, ?_, ?_, ?_, ?_, ?_, ?_, ?_, ?_, ?_, ?_, ?_, ?_, ?_, ?_⟩ <;> simp (disch := omega) only [upA_f]
theorem relA_25 (y : Int) : relA A j q 25 y = if y = q then -1 else A 25 y := by
  unfold relA
  rw [upA_n (by decide), upA_s]
theorem relA_f (h1 : f ≠ 25) (h2 : f ≠ 90) : relA A j q f = A f := by
  unfold relA
  rw [upA_f h2, upA_f h1]
theorem rel_INV (hi : INV A T) : INV (relA A j q) T := by
  obtain ⟨g, x, wx, sx, z, cx, px⟩ := hi
  unfold INV
  simp (disch := omega) only [relA_f, relA_25]
  refine ⟨g, x, wx, sx, z, cx, fun y y1 y2 => ?_⟩
  obtain ⟨y3, y4, y5, y6, y7, y8, y9, y10⟩ := px y y1 y2
  have := g.2.2.2.2.2.2.1
  by_cases hy : y = q
  · simp only [if_pos hy]
    exact ⟨y3, y4, y5, y6, by omega, by omega, fun h => ⟨(y9 h).1, trivial⟩, y10⟩
  · simp only [if_neg hy]
    exact ⟨y3, y4, y5, y6, y7, y8, y9, y10⟩
theorem S159g (h : WS M p s A T) (h1 : 0 ≤ j) (h2 : j < A 0 3) (hq : 0 ≤ q ∧ q < A 0 0) (h25 : A 25 q = -1) {x4 : Int32} {z5 : PV} : ∃ M' z5', ev true 159 0 80 [pR 6 s, pR 5 p, pI (ii j), pI (ii q), pI x4, z5] [] M X = ev true 159 0 163 [pR 6 s, pR 5 p, pI (ii j), pI (ii q), pI x4, z5'] [] M' X ∧ WS M' p s (gonA A j q) T ∧ FrI s M M' := by
  have hw := h
  obtain ⟨hp, hpl, hs, hl, hi, hT, hd⟩ := h
  obtain ⟨g1, g2, g3, g4, g5, g6, g7, g8, g9, g10, g11, g12, g13, g14, g15⟩ := hi.1
  obtain ⟨l0, l15, l17, l19, -, -, -, -, -, l31, -, -, l37, -⟩ := hl
  have hl := hw.2.2.2.1
  have hqu : QuL (s + 14) := ⟨l15, l17, l19⟩
  have hla := late_in hi h1 h2
  obtain ⟨d1, d2, d3, d4, d5, d6, d7, d8, d9, d10, d11, d12, d13⟩ := hi.2.2.2.1 j h1 h2
  obtain ⟨s1, ⟨tu, s2⟩, s3, ⟨nx, s4⟩, s5, s6, s7, s8, s9, s10, s11, s12, s13, s14, s15, s16, s17⟩ := hs
  have hs := hw.2.2.1
  obtain ⟨c1, c2, c3, c4⟩ := s3 j h1 (by omega)
  unfold gonA
  rw [q159_80, S12 h1 (by omega), kb1, q159_91, show cl M (s + 19) j = ii (A 44 j) from c3, i_0, ilt (by omega)]
  by_cases h44 : 0 < A 44 j
  · rw [if_pos h44, if_pos h44, S69 hs hl hi h1 h2, kb1, q159_99, i_0, S93 s3 hqu h1 (by omega) (Int.le_refl 0) h44, kb1, q159_115, s1, Int.add_zero]
    obtain ⟨M1, r1, r2, r3⟩ := S89 (X := X) (w := A 60 (20 * j)) (s := j) (tk := A 0 5) (wt := lateA A j) s2 l0 hq.1 hq.2
    have hs1 : STv M1 s (seaA A q (A 60 (20 * j)) j (lateA A j)) := ST_ring hs ⟨tu, r2⟩ (fun b hb => r3 b (by omega)) (fun f hf => seaA_f (by omega))
    have e44 : seaA A q (A 60 (20 * j)) j (lateA A j) 44 = A 44 := seaA_f (by omega)
    obtain ⟨M2, t1, t2, t3⟩ := S94 (X := X) hs1.2.2.1 hqu h1 (by omega) (by rw [e44]; omega)
    have hs2 : STv M2 s (dropA (seaA A q (A 60 (20 * j)) j (lateA A j)) j) := ST_que hs1 t2 (fun b hb => t3 b (by omega)) (fun f f1 f2 f3 => dropA_f f1 f2 f3)
    have v46 : cl M2 (s + 31) j = ii (A 46 j) := by
      rw [hs2.2.2.2.2.2.2.2.2.2.1 j h1 (by rw [dropA_f (by decide) (by decide) (by decide), seaA_f (by omega)]; exact h2), dropA_f (by decide) (by decide) (by decide), seaA_f (by omega)]
    have v49 : cl M2 (s + 37) j = ii (A 49 j) := by
      rw [hs2.2.2.2.2.2.2.2.2.2.2.2.2.1 j h1 (by rw [dropA_f (by decide) (by decide) (by decide), seaA_f (by omega)]; exact h2), dropA_f (by decide) (by decide) (by decide), seaA_f (by omega)]
    have hs3 := ST_46 (v := A 46 j + 1) hs2 h1
    have hs4 := ST_49 (v := lonA A j) hs3 h1
    have fr : FrI s M (sc (sc M2 (s + 31) j (ii (A 46 j + 1))) (s + 37) j (ii (lonA A j))) := ((FrI.tr (M2 := M1) (fun b hb => r3 b (by omega)) (fun b hb => t3 b (by omega))).tr (fr_sc (by omega) (by omega))).tr (fr_sc (by omega) (by omega))
    have hlon : (if lateA A j < A 49 j then ii (A 49 j) else ii (lateA A j)) = ii (lonA A j) := by unfold lonA; split <;> rfl
    refine ⟨_, pI (ii (lateA A j)), ?_, WS.of hw hs4 (fun b hb => fr b (by omega)) go_SP (go_INV hi h1 h2 hq h25 h44), fr⟩
    rw [r1, kb0, q159_125, t1, kb0, q159_133, i_1, S15 h1 (by omega), kb0, v46, ii_add, q159_142, S12 h1 (by omega), kb1, cl_sn (by omega), v49, q159_157, ilt (by omega), hlon, q159_160, S11 h1 (by omega), kb0]
  · rw [if_neg h44, if_neg h44]
    exact ⟨M, _, rfl, hw, FrI.rf⟩
theorem side_SP : SP A (sideA A j) := by
  unfold sideA gonA
  split
  · split
    · exact rel_SP.tr go_SP
    · exact rel_SP
  · split
    · split
      · exact go_SP
      · exact SP.rf
    · exact SP.rf
theorem S159b (h : WS M p s A T) (h1 : 0 ≤ j) (h2 : j < A 0 3) {z3 z4 z5 : PV} : ∃ M' z3' z4' z5', ev true 159 0 2 [pR 6 s, pR 5 p, pI (ii j), z3, z4, z5] [] M X = ev true 159 0 2 [pR 6 s, pR 5 p, pI (ii (j + 1)), z3', z4', z5'] [] M' X ∧ WS M' p s (sideA A j) T ∧ FrI s M M' := by
  have hw := h
  obtain ⟨hp, hpl, hs, hl, hi, hT, hd⟩ := h
  obtain ⟨g1, g2, g3, g4, g5, g6, g7, g8, g9, g10, g11, g12, g13, g14, g15⟩ := hi.1
  have l9 : rl (p + 9) = 6 := hpl.2.2.2.2.1
  have l29 : rl (s + 29) = 6 := hl.2.2.2.2.2.2.2.2.1
  obtain ⟨d1, d2, d3, d4, d5, d6, d7, d8, d9, d10, d11, d12, d13⟩ := hi.2.2.2.1 j h1 h2
  obtain ⟨y3, y4, y5, y6, y7, y8, y9, y10⟩ := hi.2.2.2.2.2.2 (A 40 j) d1 d2
  have e1 := hp.2.2.2.1
  have e2 := hp.2.2.2.2.2.2.2.2.2.2.1 j h1 h2
  obtain ⟨tu, s2⟩ := hs.2.1
  have s9 := hs.2.2.2.2.2.2.2.2.1
  rw [q159_2, e1, ltT (by omega), S12 h1 (by omega), kb1, q159_18, e2, S82 s2 hl.1 d1 d2, kb1, q159_27, ieq (by omega)]
  by_cases c1 : A 25 (A 40 j) = j
  · obtain ⟨r1, r2⟩ := S88 (X := X) (v := -1) s2 hl.1 d1 d2
    have hs1 : STv (sc M (s + 1 + 11) (cR (A 0 0) tu (A 40 j)) (ii (-1))) s (upA A 25 (A 40 j) (-1)) := ST_ring hs ⟨tu, r2⟩ (fun b hb => by funext i; exact sc_n (by omega)) (fun f hf => upA_f (by omega))
    have v90 : cl (sc M (s + 1 + 11) (cR (A 0 0) tu (A 40 j)) (ii (-1))) (s + 29) j = ii (A 90 j) := by rw [cl_sn (by omega)]; exact s9 j h1 h2
    have hs2 : STv _ s (relA A j (A 40 j)) := ST_90 (v := A 90 j - 1) hs1 h1
    have f1 : FrI s M (sc (sc M (s + 1 + 11) (cR (A 0 0) tu (A 40 j)) (ii (-1))) (s + 29) j (ii (A 90 j - 1))) := (fr_sc (by omega) (by omega)).tr (fr_sc (by omega) (by omega))
    have hw1 : WS _ p s (relA A j (A 40 j)) T := WS.of hw hs2 (fun b hb => f1 b (by omega)) rel_SP (rel_INV hi)
    obtain ⟨M', z5', t1, t2, t3⟩ := S159g (X := X) (x4 := ii 1) (z5 := z5) (j := j) (q := A 40 j) hw1 h1 h2 ⟨d1, d2⟩ (by rw [relA_25, if_pos rfl])
    refine ⟨M', pI (ii (A 40 j)), pI (ii 1), z5', ?_, ?_, f1.tr t3⟩
    · rw [if_pos c1, i_1, q159_36, i_0, eqF (by omega), q159_57, i_0, eqF (by omega), ii_m1, r1, kb0, q159_71, ii_m1, S15 h1 (by omega), kb0, v90, ii_add, show A 90 j + -1 = A 90 j - 1 by omega, t1, q159_163, i_1, ii_add]
    · unfold sideA
      rw [if_pos c1]
      exact t2
  · rw [if_neg c1, i_0, q159_36, i_0, eqT rfl, S87 s2 hl.1 d1 d2 (by omega) (by omega), kb1, q159_51, i_0, bIT]
    by_cases c2 : A 20 (A 40 j) = -1 ∧ A 25 (A 40 j) = -1
    · obtain ⟨M', z5', t1, t2, t3⟩ := S159g (X := X) (x4 := ii 0) (z5 := z5) (j := j) (q := A 40 j) hw h1 h2 ⟨d1, d2⟩ c2.2
      refine ⟨M', pI (ii (A 40 j)), pI (ii 0), z5', ?_, ?_, t3⟩
      · rw [decide_eq_true c2, cond_true, q159_57, i_0, eqT rfl, t1, q159_163, i_1, ii_add]
      · unfold sideA
        rw [if_neg c1, if_pos c2]
        exact t2
    · refine ⟨M, pI (ii (A 40 j)), pI (ii 0), z5, ?_, ?_, FrI.rf⟩
      · rw [decide_eq_false c2, cond_false, q159_163, i_1, ii_add]
      · unfold sideA
        rw [if_neg c1, if_neg c2]
        exact hw
def sidesA : Nat → Int → AT → AT
  | 0, _, A => A
  | n + 1, j, A => sidesA n (j + 1) (sideA A j)
theorem S159l : ∀ (m : Nat) (j : Int) (A : AT) (M : Mem) (z3 z4 z5 : PV), j + m = A 0 3 → 0 ≤ j → WS M p s A T → ∃ M', ev true 159 0 2 [pR 6 s, pR 5 p, pI (ii j), z3, z4, z5] [] M X = some (.inl none, M', X) ∧ WS M' p s (sidesA m j A) T ∧ FrI s M M' := by
  intro m
  induction m with
  | zero =>
    intro j A M z3 z4 z5 h1 h2 h
    have e1 := h.1.2.2.2.1
    have g := h.2.2.2.2.1.1
    exact ⟨M, by rw [q159_2, e1, ltF (by omega)], h, FrI.rf⟩
  | succ m ih =>
    intro j A M z3 z4 z5 h1 h2 h
    obtain ⟨M1, z3', z4', z5', r1, r2, r3⟩ := S159b (X := X) (z3 := z3) (z4 := z4) (z5 := z5) h h2 (by omega)
    obtain ⟨M2, t1, t2, t3⟩ := ih (j + 1) (sideA A j) M1 z3' z4' z5' (by rw [side_SP.2.2.2.1]; omega) (by omega) r2
    exact ⟨M2, by rw [r1, t1], t2, r3.tr t3⟩
def allSidesA (A : AT) : AT := sidesA (A 0 3).toNat 0 A
theorem S159 (h : WS M p s A T) : ∃ M', ev true 159 0 0 [pR 6 s, pR 5 p, p0, p0, p0, p0] [] M X = some (.inl none, M', X) ∧ WS M' p s (allSidesA A) T ∧ FrI s M M' := by
  have g := h.2.2.2.2.1.1
  obtain ⟨M', t1, t2, t3⟩ := S159l (X := X) (A 0 3).toNat 0 A M p0 p0 p0 (by omega) (by omega) h
  exact ⟨M', by rw [q159_0, i_0, t1], t2, t3⟩
end GOO
