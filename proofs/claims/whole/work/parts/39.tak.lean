/-! what is taken -/
section TAK
set_option maxRecDepth 100000
variable {u s p l t g : Nat} {j k q e w c T n tu nx v off : Int} {A A' : AT} {M M' : Mem} {X : PX} {f : Nat}
theorem logA_f {v : Int → Int} (h1 : f ≠ 0) (h2 : f ≠ 70) : logA A v f = A f := by
  funext y
  unfold logA
  rw [if_neg (by omega), if_neg (by omega)]
theorem logA_0 {v : Int → Int} (h1 : k ≠ 8) : logA A v 0 k = A 0 k := by
  unfold logA
  rw [if_neg (by omega), if_neg (by omega)]
def logV (A : AT) (e q : Int) : Int → Int := fun i => if i = 0 then A 0 5 else if i = 1 then e else if i = 2 then A 20 q else if i = 3 then A 21 q else if i = 4 then A 24 q else if i = 5 then A 0 5 - A 23 q else A 22 q
def tak1 (A : AT) (e q : Int) : AT := upA (upA (upA (upA (logA A (logV A e q)) 34 e (A 34 e + 1)) 47 (A 21 q) (A 47 (A 21 q) + 1)) 28 (A 20 q) (A 28 (A 20 q) + 1)) 35 e (A 0 5 + A 31 e)
def takA (A : AT) (e q : Int) : AT := upA (upA (upA (upA (upA (tak1 A e q) 20 q (-1)) 21 q (-1)) 22 q (-1)) 0 6 (A 0 6 + 1)) 33 e (A 0 5)
def exitB (A : AT) (e : Int) : Prop := A 32 e ≤ 0 ∧ A 35 e ≤ A 0 5 ∧ A 20 (A 30 e) ≠ -1 ∧ A 26 (A 20 (A 30 e)) = e
noncomputable def exitA (A : AT) (e : Int) : AT := by
  classical
  exact if exitB A e then takA A e (A 30 e) else A
theorem exitA_t (h : exitB A e) : exitA A e = takA A e (A 30 e) := by unfold exitA; rw [if_pos h]
theorem exitA_n (h : ¬ exitB A e) : exitA A e = A := by unfold exitA; rw [if_neg h]
theorem takA_f (h0 : f ≠ 0) (h1 : f ≠ 20) (h2 : f ≠ 21) (h3 : f ≠ 22) (h4 : f ≠ 28) (h5 : f ≠ 33) (h6 : f ≠ 34) (h7 : f ≠ 35) (h8 : f ≠ 47) (h9 : f ≠ 70) : takA A e q f = A f := by
  unfold takA tak1
  simp (disch := omega) only [upA_f, logA_f]
theorem takA_0 (h0 : k ≠ 6) (h1 : k ≠ 8) : takA A e q 0 k = A 0 k := by
  unfold takA tak1
  simp (disch := omega) only [upA_n, upA_d, logA_0]
theorem takA_08 : takA A e q 0 8 = if 40 < A 0 8 + 1 then 40 else A 0 8 + 1 := by
  unfold takA tak1
  simp (disch := omega) only [upA_n, upA_d, logA_08]
theorem takA_20 (y : Int) : takA A e q 20 y = if y = q then -1 else A 20 y := by
  unfold takA tak1
  simp (disch := omega) only [upA_n, upA_s, logA_f]
theorem takA_21 (y : Int) : takA A e q 21 y = if y = q then -1 else A 21 y := by
  unfold takA tak1
  simp (disch := omega) only [upA_n, upA_s, logA_f]
theorem takA_22 (y : Int) : takA A e q 22 y = if y = q then -1 else A 22 y := by
  unfold takA tak1
  simp (disch := omega) only [upA_n, upA_s, logA_f]
theorem takA_33 (y : Int) : takA A e q 33 y = if y = e then A 0 5 else A 33 y := by
  unfold takA tak1
  simp (disch := omega) only [upA_n, upA_s, logA_f]
theorem takA_35 (y : Int) : takA A e q 35 y = if y = e then A 0 5 + A 31 e else A 35 y := by
  unfold takA tak1
  simp (disch := omega) only [upA_n, upA_s, logA_f]
theorem tak_SP : SP A (takA A e q) := by
  refine ⟨?_, ?_, ?_, ?_, ?_, ?_, ?_, ?_, ?_, ?_, ?_, ?_, ?_, ?_, ?_, ?_, ?_⟩ <;> simp (disch := omega) only [takA_f, takA_0]
theorem exit_SP : SP A (exitA A e) := by
  by_cases h : exitB A e
  · rw [exitA_t h]; exact tak_SP
  · rw [exitA_n h]; exact SP.rf
theorem tak_INV (hi : INV A T) (h1 : 0 ≤ e) (h2 : e < A 0 1) (hb : exitB A e) : INV (takA A e (A 30 e)) T := by
  obtain ⟨g, x, wx, sx, z, cx, px⟩ := hi
  obtain ⟨x1, x2, x3, x4, x5, x6, x7, x8, x9, x10⟩ := x e h1 h2
  unfold INV
  simp (disch := omega) only [takA_f, takA_0, takA_08, takA_20, takA_21, takA_22, takA_33, takA_35]
  refine ⟨?_, fun y y1 y2 => ?_, wx, sx, z, cx, fun y y1 y2 => ?_⟩
  · refine ⟨g.1, g.2.1, g.2.2.1, g.2.2.2.1, g.2.2.2.2.1, g.2.2.2.2.2.1, g.2.2.2.2.2.2.1, g.2.2.2.2.2.2.2.1, g.2.2.2.2.2.2.2.2.1, g.2.2.2.2.2.2.2.2.2.1, g.2.2.2.2.2.2.2.2.2.2.1, g.2.2.2.2.2.2.2.2.2.2.2.1, ?_, ?_, g.2.2.2.2.2.2.2.2.2.2.2.2.2.2⟩
    · split <;> omega
    · split <;> omega
  · obtain ⟨y3, y4, y5, y6, y7, y8, y9, y10, y11, y12⟩ := x y y1 y2
    by_cases hy : y = e
    · subst hy
      simp only [if_true]
      exact ⟨y3, y4, y5, y6, y7, y8, by omega, by omega, fun _ => by omega, fun _ => trivial⟩
    · simp only [if_neg hy]
      exact ⟨y3, y4, y5, y6, y7, y8, y9, y10, y11, y12⟩
  · obtain ⟨y3, y4, y5, y6, y7, y8, y9, y10⟩ := px y y1 y2
    by_cases hy : y = A 30 e
    · simp only [if_pos hy]
      exact ⟨by omega, by omega, by omega, by omega, y7, y8, fun h => absurd rfl h, fun _ => ⟨trivial, trivial⟩⟩
    · simp only [if_neg hy]
      exact ⟨y3, y4, y5, y6, y7, y8, y9, y10⟩
theorem exit_INV (hi : INV A T) (h1 : 0 ≤ e) (h2 : e < A 0 1) : INV (exitA A e) T := by
  by_cases h : exitB A e
  · rw [exitA_t h]; exact tak_INV hi h1 h2 h
  · rw [exitA_n h]; exact hi
theorem fr_of {M1 M2 : Mem} (h : ∀ b, b < s + 1 ∨ s + 49 < b → M2 b = M1 b) : FrI s M1 M2 := fun b hb => h b (by omega)
theorem S211b (h : WS M p s A T) (h1 : 0 ≤ e) (h2 : e < A 0 1) {z3 z4 z5 : PV} : ∃ M' z3' z4' z5', ev true 211 0 2 [pR 6 s, pR 5 p, pI (ii e), z3, z4, z5] [] M X = ev true 211 0 2 [pR 6 s, pR 5 p, pI (ii (e + 1)), z3', z4', z5'] [] M' X ∧ WS M' p s (exitA A e) T ∧ FrI s M M' := by
  have hw := h
  obtain ⟨hp, hpl, hs, hl, hi, hT, hd⟩ := h
  obtain ⟨x1, x2, x3, x4, x5, x6, x7, x8, x9, x10⟩ := hi.2.1 e h1 h2
  obtain ⟨g1, g2, g3, g4, g5, g6, g7, g8, g9, g10, g11, g12, g13, g14, g15⟩ := hi.1
  have l1 : rl (p + 1) = 6 := hpl.1
  have l3 : rl (p + 3) = 6 := hpl.2.1
  obtain ⟨l0, -, -, -, -, -, -, -, -, -, l33, -, -, l39, l41, l43, l45, l48⟩ := hl
  have hl := hw.2.2.2.1
  have e1 := hp.2.1
  have e2 := hp.2.2.2.2.2.2.1 e h1 h2
  have e5 := hs.1
  obtain ⟨s1, ⟨tu, s2⟩, s3, ⟨nx, s4⟩, s5, s6, s7, s8, s9, s10, s11, s12, s13, s14, s15, s16, s17⟩ := hs
  have hs := hw.2.2.1
  have b11 : 0 ≤ A 35 e ∧ A 35 e ≤ T + 9 := by
    rcases Int.lt_or_le (A 33 e) 0 with h | h
    · rw [x9 h]; omega
    · rw [x10 h]; omega
  obtain ⟨y3, y4, y5, y6, y7, y8, y9, y10⟩ := hi.2.2.2.2.2.2 (A 30 e) x1 x2
  rw [q211_2, e1, ltT (by omega), S12 h1 (by omega), kb1, q211_18, e2, S12 h1 (by omega), kb1, q211_27, s15 e h1 h2, i_0, ilt (by omega)]
  by_cases c1 : 0 < A 32 e
  · rw [if_pos c1, q211_173, i_1, ii_add, exitA_n (fun z => by have := z.1; omega)]
    exact ⟨M, _, _, _, rfl, hw, FrI.rf⟩
  · rw [if_neg c1, S12 h1 (by omega), kb1, q211_42, s14 e h1 h2, e5, ilt (by omega)]
    by_cases c2 : A 0 5 < A 35 e
    · rw [if_pos c2, q211_173, i_1, ii_add, exitA_n (fun z => by have := z.2.1; omega)]
      exact ⟨M, _, _, _, rfl, hw, FrI.rf⟩
    · rw [if_neg c2, S156 hp hpl hs hl hi x1 x2 h1 (by omega), kb1, q211_52, i_0, bIT]
      by_cases c3 : A 20 (A 30 e) ≠ -1 ∧ A 26 (A 20 (A 30 e)) = e
      · have hb : exitB A e := ⟨by omega, by omega, c3.1, c3.2⟩
        obtain ⟨sd1, sd2⟩ := y9 c3.1
        have z1 : 0 ≤ A 20 (A 30 e) := by have := c3.1; omega
        obtain ⟨M1, nx', r1, r2, r3⟩ := S98 (X := X) (v0 := A 0 5) (v1 := e) (v2 := A 20 (A 30 e)) (v3 := A 21 (A 30 e)) (v4 := A 24 (A 30 e)) (v5 := A 0 5 - A 23 (A 30 e)) (v6 := A 22 (A 30 e)) s4 l48
        have hs1 : STv M1 s (logA A (logV A e (A 30 e))) := ST_log hs ⟨nx', r2⟩ (fun b b1 b2 => r3 b b1 (by omega)) (fun f f1 f2 => logA_f f1 f2) (fun k k1 => logA_0 k1)
        have hs2 := ST_34 (v := A 34 e + 1) hs1 h1
        have hs3 := ST_47 (v := A 47 (A 21 (A 30 e)) + 1) hs2 sd1
        have hs4 := ST_28 (v := A 28 (A 20 (A 30 e)) + 1) hs3 z1
        have hs5 := ST_35 (v := A 0 5 + A 31 e) hs4 h1
        have v34 : cl M1 (s + 43) e = ii (A 34 e) := by
          rw [hs1.2.2.2.2.2.2.2.2.2.2.2.2.2.2.2.1 e h1 (by omega), logA_f (by decide) (by decide)]
        have v47 : cl M1 (s + 33) (A 21 (A 30 e)) = ii (A 47 (A 21 (A 30 e))) := by
          rw [hs1.2.2.2.2.2.2.2.2.2.2.1 _ sd1 (by omega), logA_f (by decide) (by decide)]
        have v28 : cl M1 (s + 45) (A 20 (A 30 e)) = ii (A 28 (A 20 (A 30 e))) := by
          rw [hs1.2.2.2.2.2.2.2.2.2.2.2.2.2.2.2.2 _ z1 (by rw [logA_0 (by decide)]; exact y4), logA_f (by decide) (by decide)]
        obtain ⟨tu5, q5⟩ := hs5.2.1
        have hN : (upA (upA (upA (upA (logA A (logV A e (A 30 e))) 34 e (A 34 e + 1)) 47 (A 21 (A 30 e)) (A 47 (A 21 (A 30 e)) + 1)) 28 (A 20 (A 30 e)) (A 28 (A 20 (A 30 e)) + 1)) 35 e (A 0 5 + A 31 e)) 0 0 = A 0 0 := by
          simp (disch := omega) only [upA_n, logA_0]
        rw [hN] at q5
        obtain ⟨M6, t1, t2, t3⟩ := S86 (X := X) q5 l0 x1 x2
        have f1 : FrI s M M1 := fun b hb => r3 b (by omega) (by omega)
        have f5 : FrI s M (sc (sc (sc (sc M1 (s + 43) e (ii (A 34 e + 1))) (s + 33) (A 21 (A 30 e)) (ii (A 47 (A 21 (A 30 e)) + 1))) (s + 45) (A 20 (A 30 e)) (ii (A 28 (A 20 (A 30 e)) + 1))) (s + 39) e (ii (A 0 5 + A 31 e))) := (((f1.tr (fr_sc (by omega) (by omega))).tr (fr_sc (by omega) (by omega))).tr (fr_sc (by omega) (by omega))).tr (fr_sc (by omega) (by omega))
        have f6 : FrI s M M6 := f5.tr fun b hb => t3 b (by omega)
        have hp3 : PLv (sc (sc (sc M1 (s + 43) e (ii (A 34 e + 1))) (s + 33) (A 21 (A 30 e)) (ii (A 47 (A 21 (A 30 e)) + 1))) (s + 45) (A 20 (A 30 e)) (ii (A 28 (A 20 (A 30 e)) + 1))) p A := PLv_k hp (fun b b1 b2 _ _ => (((f1.tr (fr_sc (by omega) (by omega))).tr (fr_sc (by omega) (by omega))).tr (fr_sc (by omega) (by omega))) b (by omega)) SP.rf
        have k5 : M1 s 0 = ii (A 0 5) := by rw [f1 s (by omega)]; exact e5
        refine ⟨M6, pI (ii (A 30 e)), pI (ii (A 20 (A 30 e))), pI (ii (A 21 (A 30 e))), ?_, ?_, f6⟩
        · rw [decide_eq_true c3, cond_true, S78 s2 l0 x1 x2, kb1, q211_66, S79 s2 l0 x1 x2, kb1, q211_76, S85 s2 l0 x1 x2 c3.1, kb1, q211_99, S155 hs hl hi x1 x2, if_neg c3.1, kb1, q211_104, S80 s2 l0 x1 x2, kb1, q211_112, e5, r1, kb0, q211_115, i_1, S15 h1 (by omega), kb0, v34, ii_add, q211_124, i_1, S15 sd1 (by omega), kb0, cl_sn (by omega), v47, ii_add, q211_134, i_1, S15 z1 (by omega), kb0, cl_sn (by omega), cl_sn (by omega), v28, ii_add, q211_144, S12 h1 (by omega), kb1, q211_161, sc_n (by omega), sc_n (by omega), sc_n (by omega), k5, hp3.2.2.2.2.2.2.2.1 e h1 h2, ii_add, S11 h1 (by omega), kb0, q211_165, t1, kb0, q211_173, i_1, ii_add]
        · have hs6 := ST_ring hs5 ⟨tu5, by rw [hN]; exact t2⟩ (fun b hb => t3 b (by omega)) (fun f hf => by rw [upA_f (by omega), upA_f (by omega), upA_f (by omega)])
          have hA7 : STv M6 s (takA A e (A 30 e)) := ST_abs hs6 rfl (fun f f1 f2 => by unfold takA tak1; rw [upA_f f2, upA_f f1]) (fun k k1 k2 => by unfold takA tak1; rw [upA_n (by decide), upA_d k1])
          rw [exitA_t hb]
          exact WS.of hw hA7 (fun b hb => f6 b (by omega)) tak_SP (tak_INV hi h1 h2 hb)
      · rw [decide_eq_false c3, cond_false, q211_173, i_1, ii_add, exitA_n (fun z => c3 z.2.2)]
        exact ⟨M, _, _, _, rfl, hw, FrI.rf⟩
noncomputable def exitsA : Nat → Int → AT → AT
  | 0, _, A => A
  | n + 1, e, A => exitsA n (e + 1) (exitA A e)
theorem S211l : ∀ (m : Nat) (e : Int) (A : AT) (M : Mem) (z3 z4 z5 : PV), e + m = A 0 1 → 0 ≤ e → WS M p s A T → ∃ M', ev true 211 0 2 [pR 6 s, pR 5 p, pI (ii e), z3, z4, z5] [] M X = some (.inl none, M', X) ∧ WS M' p s (exitsA m e A) T ∧ FrI s M M' := by
  intro m
  induction m with
  | zero =>
    intro e A M z3 z4 z5 h1 h2 h
    have e1 := h.1.2.1
    have g := h.2.2.2.2.1.1
    exact ⟨M, by rw [q211_2, e1, ltF (by omega)], h, FrI.rf⟩
  | succ m ih =>
    intro e A M z3 z4 z5 h1 h2 h
    obtain ⟨M1, z3', z4', z5', r1, r2, r3⟩ := S211b (X := X) (z3 := z3) (z4 := z4) (z5 := z5) h h2 (by omega)
    obtain ⟨M2, t1, t2, t3⟩ := ih (e + 1) (exitA A e) M1 z3' z4' z5' (by rw [exit_SP.2.1]; omega) (by omega) r2
    exact ⟨M2, by rw [r1, t1], t2, r3.tr t3⟩
noncomputable def allExitsA (A : AT) : AT := exitsA (A 0 1).toNat 0 A
theorem S211 (h : WS M p s A T) : ∃ M', ev true 211 0 0 [pR 6 s, pR 5 p, p0, p0, p0, p0] [] M X = some (.inl none, M', X) ∧ WS M' p s (allExitsA A) T ∧ FrI s M M' := by
  have g := h.2.2.2.2.1.1
  obtain ⟨M', t1, t2, t3⟩ := S211l (X := X) (A 0 1).toNat 0 A M p0 p0 p0 (by omega) (by omega) h
  exact ⟨M', by rw [q211_0, i_0, t1], t2, t3⟩
end TAK
