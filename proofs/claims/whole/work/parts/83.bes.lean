/-! the best reach, without a side: both sides -/
section BES
set_option maxRecDepth 100000
variable {u p v l g : Nat} {j q e w c T T' tu tv nx off sh i z y N t x a b d o : Int} {A B C I I' A' B' R : AT} {M M' M0 M1 M2 : Mem} {X : PX} {L : Bool} {n s m : Nat} {Q Q' : Nat → AT} {k : Bool} {D : Nat → Int} {f : Int}
theorem RR_44z (h : RR M A) (h1 : 0 ≤ j) (h2 : j < 6) : RR (sr M (66 + 10 * j + 4) (ii 0)) (upA A 44 j 0) := by
  obtain ⟨r0, rx, rw9, rs, rc, rp, rb, rq, rl9⟩ := h
  refine ⟨fun k a b => ?_, fun e a b => ?_, fun e a b => ?_, fun e a b => ?_, fun e a b => ?_, fun q a b => ?_, fun q k a0 a b c d => ?_, fun e k a b c d => ?_, fun e k a b c d => ?_⟩
  · skip
    have h9 := r0 k a b
    simp (disch := omega) only [rr_sr, upA_s, upA_n, if_neg, if_pos, if_true, if_false]
    exact h9
  · skip
    have h9 := rx e a b
    simp (disch := omega) only [rr_sr, upA_s, upA_n, if_neg, if_pos, if_true, if_false]
    exact h9
  · skip
    have h9 := rw9 e a b
    simp (disch := omega) only [rr_sr, upA_s, upA_n, if_neg, if_pos, if_true, if_false]
    exact h9
  · skip
    by_cases hy : e = j
    · subst hy
      have h9 := rs e a b
      simp (disch := omega) only [rr_sr, upA_s, upA_n, if_neg, if_pos, if_true, if_false]
      exact ⟨h9.1, h9.2.1, h9.2.2.1, h9.2.2.2.1, trivial, h9.2.2.2.2.2.1, h9.2.2.2.2.2.2.1, h9.2.2.2.2.2.2.2.1, h9.2.2.2.2.2.2.2.2.1, h9.2.2.2.2.2.2.2.2.2⟩
    · have h9 := rs e a b
      simp (disch := omega) only [rr_sr, upA_s, upA_n, if_neg, if_pos, if_true, if_false]
      exact h9
  · skip
    have h9 := rc e a b
    simp (disch := omega) only [rr_sr, upA_s, upA_n, if_neg, if_pos, if_true, if_false]
    exact h9
  · skip
    rw [upA_n (by decide)] at b
    have h9 := rp q a b
    simp (disch := omega) only [rr_sr, upA_s, upA_n, if_neg, if_pos, if_true, if_false]
    exact h9
  · skip
    rw [upA_n (by decide)] at a
    have h9 := rb q k a0 a b c d
    simp (disch := omega) only [rr_sr, upA_s, upA_n, if_neg, if_pos, if_true, if_false]
    exact h9
  · skip
    rw [upA_s] at d
    by_cases hy : e = j
    · rw [if_pos hy] at d; omega
    · rw [if_neg hy] at d
      have h9 := rq e k a b c d
      simp (disch := omega) only [rr_sr, upA_s, upA_n, if_neg, if_pos, if_true, if_false]
      exact h9
  · skip
    rw [upA_n (by decide)] at b
    have h9 := rl9 e k a b c d
    simp (disch := omega) only [rr_sr, upA_s, upA_n, if_neg, if_pos, if_true, if_false]
    exact h9
/-- the best of the first reaches, and how many more went -/
noncomputable def brA (A : AT) (a : Int) (n : Nat) : Nat → Int × Int
  | 0 => (0, -1)
  | r + 1 => if (brA A a n r).2 < runA (-1) n (upA A 42 a r) 46 a - A 46 a then ((r : Int), runA (-1) n (upA A 42 a r) 46 a - A 46 a) else brA A a n r
theorem run_46 (y : Int) : ∀ (n : Nat) (A : AT), A 46 y ≤ runA off n A 46 y ∧ runA off n A 46 y ≤ A 46 y + n
  | 0, A => ⟨Int.le_refl _, by show A 46 y ≤ A 46 y + ((0 : Nat) : Int); omega⟩
  | n + 1, A => by
    have a := run_46 y n (stepA off A)
    have b := step_46 (off := off) (A := A) y
    show A 46 y ≤ runA off n (stepA off A) 46 y ∧ runA off n (stepA off A) 46 y ≤ A 46 y + ((n + 1 : Nat) : Int)
    omega
theorem br_in (A : AT) (a : Int) (n : Nat) : ∀ r : Nat, (r = 0 ∧ brA A a n r = (0, -1)) ∨ (0 < r ∧ 0 ≤ (brA A a n r).2 ∧ (brA A a n r).2 ≤ n ∧ 0 ≤ (brA A a n r).1 ∧ (brA A a n r).1 < r)
  | 0 => Or.inl ⟨rfl, rfl⟩
  | r + 1 => by
    right
    have h := run_46 (off := -1) a n (upA A 42 a r)
    rw [upA_f (show (46 : Nat) ≠ 42 by decide)] at h
    refine ⟨by omega, ?_⟩
    unfold brA
    split
    · exact ⟨by show 0 ≤ _ - _; omega, by show _ - _ ≤ (n : Int); omega, by show (0 : Int) ≤ r; omega, by show (r : Int) < ((r + 1 : Nat) : Int); omega⟩
    · next h9 =>
      rcases br_in A a n r with ⟨rfl, h2⟩ | ⟨h1, h2, h3, h4, h5⟩
      · exfalso
        rw [h2] at h9
        have h9 : ¬ (-1 < runA (-1) n (upA A 42 a ((0 : Nat) : Int)) 46 a - A 46 a) := h9
        omega
      · exact ⟨h2, h3, h4, by omega⟩
theorem C_best {n9 : Int} (hz : ZW T A n Q k I s D f) (hT : T + 500 < 1000000) (ha : 0 ≤ a ∧ a < A 0 3) (hn : 0 ≤ n9 ∧ n9 ≤ 500) : ∀ (m r : Nat) (M : Mem), (r : Int) + m = A 0 0 → CW M A n Q k I s D f → ∃ M', ev true 262 0 50 [pR 1 0, pI (ii a), pI (ii n9), pI (ii (brA A a n9.toNat r).1), pI (ii (if r = 0 then -1 else (brA A a n9.toNat r).2 + A 46 a)), pI (ii r)] [] M X = some (.inl (some (pI (ii (brA A a n9.toNat (A 0 0).toNat).1))), M', X) ∧ CW M' A n Q k I s D f ∧ ∀ b, 819 ≤ b → M' b = M b := by
  have g := hz.1.1.1
  have hg := hz.1.2.2.2.2 a ha.1 ha.2
  have m31 : rl 716 = 6 := by obtain ⟨-, -, -, -, -, -, -, -, -, l31, -⟩ := stl685; exact l31
  intro m
  induction m with
  | zero =>
    intro r M h1 h
    exact ⟨M, by rw [q262_50, h.1.1.1, ltF (by omega), show (A 0 0).toNat = r by omega], h, fun _ _ => rfl⟩
  | succ m ih =>
    intro r M h1 h
    obtain ⟨hB, hS⟩ := set_PW (g := 42) (j := a) (x := r) hz.1 (by omega) ha.1 ⟨fun z => absurd z (by decide), fun z => absurd z (by decide), fun _ => by omega, fun z => absurd z (by decide)⟩
    obtain ⟨M1, a1, a2, a3, a4, a5⟩ := C_set (X := X) (F := 42) (p := 708) h hz (by omega) ha (Or.inr ⟨rfl, rfl⟩) hB hS
    obtain ⟨M2, b1, b2, b3⟩ := S251 (X := X) (n := n9.toNat) a3 (by omega) (by omega) a4 (by omega)
    rw [show ((n9.toNat : Nat) : Int) = n9 by omega] at b1
    have fr := a5.tr (FrG.s7 b3)
    have hw := h.trial fr
    have r3 : (runA (-1) n9.toNat (upA A 42 a r)) 0 3 = A 0 3 := by rw [(run_SP n9.toNat (upA A 42 a r)).2.2.2.1, upA_f (by decide)]
    have r46 : cl M2 716 a = ii (runA (-1) n9.toNat (upA A 42 a r) 46 a) := by obtain ⟨-, -, -, -, -, -, -, -, -, h, -⟩ := b2.1.2.2.1; exact h a ha.1 (by omega)
    have hb := br_in A a n9.toNat r
    have hr := run_46 (off := -1) a n9.toNat (upA A 42 a r)
    rw [upA_f (show (46 : Nat) ≠ 42 by decide)] at hr
    have m4 : -1 ≤ (if r = 0 then -1 else (brA A a n9.toNat r).2 + A 46 a) ∧ (if r = 0 then -1 else (brA A a n9.toNat r).2 + A 46 a) < 2000000 := by
      rcases hb with ⟨hb, -⟩ | ⟨hb, h2, h3, -⟩
      · rw [if_pos hb]; omega
      · rw [if_neg (by omega)]; omega
    have key : ((if r = 0 then -1 else (brA A a n9.toNat r).2 + A 46 a) < runA (-1) n9.toNat (upA A 42 a r) 46 a) ↔ (brA A a n9.toNat r).2 < runA (-1) n9.toNat (upA A 42 a r) 46 a - A 46 a := by
      rcases hb with ⟨hb, h2⟩ | ⟨hb, h2, h3, -⟩
      · rw [if_pos hb, h2]
        show _ ↔ (-1 : Int) < _
        constructor <;> intro _ <;> omega
      · rw [if_neg (by omega)]
        constructor <;> intro _ <;> omega
    obtain ⟨M', c1, c2, c3⟩ := ih (r + 1) M2 (by omega) hw
    refine ⟨M', ?_, c2, fun y hy => (c3 y hy).trans (fr.hi y hy)⟩
    rw [if_neg (show ¬ r + 1 = 0 by omega), show ((r + 1 : Nat) : Int) = (r : Int) + 1 from rfl] at c1
    rw [q262_50, h.1.1.1, ltT (by omega), a1, kt0, q262_73, a2, kt0, q262_86, b1, kt0, q262_98, S12 ha.1 (by omega), kt1, r46, q262_109, ilt (by omega)]
    by_cases c : (brA A a n9.toNat r).2 < runA (-1) n9.toNat (upA A 42 a r) 46 a - A 46 a
    · have e : brA A a n9.toNat (r + 1) = ((r : Int), runA (-1) n9.toNat (upA A 42 a r) 46 a - A 46 a) := if_pos c
      rw [e] at c1
      rw [if_pos (key.mpr c), S12 ha.1 (by omega), kt1, r46, q262_125, q262_130, i_1, ii_add, ← c1]
      show ev true 262 0 50 [pR 1 0, pI (ii a), pI (ii n9), pI (ii r), _, _] [] M2 X = ev true 262 0 50 [pR 1 0, pI (ii a), pI (ii n9), pI (ii r), pI (ii (runA (-1) n9.toNat (upA A 42 a r) 46 a - A 46 a + A 46 a)), _] [] M2 X
      rw [show runA (-1) n9.toNat (upA A 42 a r) 46 a - A 46 a + A 46 a = runA (-1) n9.toNat (upA A 42 a r) 46 a by omega]
    · have e : brA A a n9.toNat (r + 1) = brA A a n9.toNat r := if_neg c
      rw [e] at c1
      have hr0 : r ≠ 0 := fun z => by
        rcases hb with ⟨-, h2⟩ | ⟨h2, -⟩
        · rw [h2] at c
          have c : ¬ (-1 < runA (-1) n9.toNat (upA A 42 a r) 46 a - A 46 a) := c
          omega
        · omega
      rw [if_neg (fun z => c (key.mp z)), q262_130, i_1, ii_add, if_neg hr0, c1]
theorem R_best {n9 : Int} (hz : ZW T A n Q k I s D f) (hT : T + 500 < 1000000) (ha : 0 ≤ a ∧ a < A 0 3) (hn : 0 ≤ n9 ∧ n9 ≤ 500) : ∀ (m r : Nat) (M : Mem) (z6 : PV), (r : Int) + m = A 0 0 → RWx M A n Q k I s D f → ∃ M', ev true 309 0 49 [pR 13 819, pI (ii a), pI (ii n9), pI (ii (brA A a n9.toNat r).1), pI (ii (brA A a n9.toNat r).2), pI (ii r), z6] [] M X = some (.inl (some (pI (ii (brA A a n9.toNat (A 0 0).toNat).1))), M', X) ∧ RWx M' A n Q k I s D f ∧ (∀ b, b < 819 → M' b = M b) ∧ M' 819 7 = M 819 7 := by
  have g := hz.1.1.1
  intro m
  induction m with
  | zero =>
    intro r M z6 h1 h
    have t0 : rr M 0 = ii (A 0 0) := h.1.1.1 0 (by omega) (by omega)
    exact ⟨M, by rw [q309_49, S23, kb1, t0, q309_55, ltF (by omega), show (A 0 0).toNat = r by omega], h, fun _ _ => rfl, rfl⟩
  | succ m ih =>
    intro r M z6 h1 h
    have t0 : rr M 0 = ii (A 0 0) := h.1.1.1 0 (by omega) (by omega)
    obtain ⟨hB, hS⟩ := set_PW (g := 42) (j := a) (x := r) hz.1 (by omega) ha.1 ⟨fun z => absurd z (by decide), fun z => absurd z (by decide), fun _ => by omega, fun z => absurd z (by decide)⟩
    obtain ⟨M1, a1, a2, a3, a4⟩ := R_inTrial (X := X) (F := 42) (W := 46) (o := 2) (w := 6) (x := r) (n9 := n9) h hz hT ha (by omega) (by omega) hB hS (fun M hr => RR_42 hr ha.1 (by omega)) (fun M B hr => (hr.2.2.2.1 a ha.1 (by omega)).2.2.2.2.2.2.1) (by decide) hn
    have hb := br_in A a n9.toNat r
    have hr := run_46 (off := -1) a n9.toNat (upA A 42 a r)
    rw [upA_f (show (46 : Nat) ≠ 42 by decide)] at hr
    have m4 : -1 ≤ (brA A a n9.toNat r).2 ∧ (brA A a n9.toNat r).2 < 2000000 := by
      rcases hb with ⟨hb, h2⟩ | ⟨hb, h2, h3, -⟩
      · rw [h2]; exact ⟨Int.le_refl _, by show (-1 : Int) < 2000000; omega⟩
      · omega
    obtain ⟨M', c1, c2, c3, c4⟩ := ih (r + 1) M1 (pI (ii (runA (-1) n9.toNat (upA A 42 a r) 46 a - A 46 a))) (by omega) a2
    rw [show ((r + 1 : Nat) : Int) = (r : Int) + 1 from rfl] at c1
    refine ⟨M', ?_, c2, fun y hy => (c3 y hy).trans (a3 y hy), c4.trans a4⟩
    rw [q309_49, S23, kb1, t0, q309_55, ltT (by omega), i_2, i_6, a1, kb1, q309_69, ilt (by omega)]
    by_cases c : (brA A a n9.toNat r).2 < runA (-1) n9.toNat (upA A 42 a r) 46 a - A 46 a
    · have e : brA A a n9.toNat (r + 1) = ((r : Int), runA (-1) n9.toNat (upA A 42 a r) 46 a - A 46 a) := if_pos c
      rw [e] at c1
      rw [if_pos c, q309_88, i_1, ii_add]
      exact c1
    · have e : brA A a n9.toNat (r + 1) = brA A a n9.toNat r := if_neg c
      rw [e] at c1
      rw [if_neg c, q309_88, i_1, ii_add]
      exact c1
theorem P_best_1 (hz : ZW T A n Q k I s D f) (ha : B32 a) (hc : ¬ (0 ≤ a ∧ a < A 0 3)) : cT (fun M => CW M A n Q k I s D f) 262 [pR 1 0, pI (ii a), pI (ii b), p0, p0, p0] 1 ∧ rA (fun M => RWx M A n Q k I s D f) (fun M => RWx M A n Q k I s D f) 309 [pR 13 819, pI (ii a), pI (ii b), p0, p0, p0, p0] (ii 0) 1 := by
  have g := hz.1.1.1
  refine ⟨fun M X h hX => ?_, fun M X h => ⟨upM M 819 7 (ii 1), ?_, h.u7 hz, fr7, st7⟩⟩
  · rw [q262_0, h.1.1.2.2.2.1, S1 ha (by omega), kt1, q262_11, i_0, bIT, decide_eq_false hc, cond_false, thT hX (by decide) (by decide)]
  · rw [q309_0, S116' h hz ha, kb1, q309_6, i_0, bIT, decide_eq_false hc, cond_false, q309_29, i_1, st7, i_0, ltT (by omega)]
theorem P_best_2 (hz : ZW T A n Q k I s D f) (ha : 0 ≤ a ∧ a < A 0 3) (hb : B32 b) (hc : ¬ (1 ≤ b ∧ b ≤ 200)) : cT (fun M => CW M A n Q k I s D f) 262 [pR 1 0, pI (ii a), pI (ii b), p0, p0, p0] 2 ∧ rA (fun M => RWx M A n Q k I s D f) (fun M => RWx M A n Q k I s D f) 309 [pR 13 819, pI (ii a), pI (ii b), p0, p0, p0, p0] (ii 0) 2 := by
  have g := hz.1.1.1
  refine ⟨fun M X h hX => ?_, fun M X h => ⟨upM M 819 7 (ii 2), ?_, h.u7 hz, fr7, st7⟩⟩
  · obtain ⟨b1, b2⟩ := hb
    rw [q262_0, h.1.1.2.2.2.1, S1 (b32 (by omega)) (by omega), kt1, q262_11, i_0, bIT, decide_eq_true ha, cond_true, i_1, ilt (by omega), i_200, ilt (by omega)]
    by_cases c1 : b < 1
    · rw [if_pos c1, q262_34, thT hX (by decide) (by decide)]
    · rw [if_neg c1, if_pos (by omega), q262_34, thT hX (by decide) (by decide)]
  · rw [q309_0, S116' h hz (b32 (by omega)), kb1, q309_6, i_0, bIT, decide_eq_true ha, cond_true, i_1, i_200, S28 hb (b32 (by omega)) (b32 (by omega)), kb1, q309_21, i_0, bIT, decide_eq_false hc, cond_false, q309_29, i_2, st7, i_0, ltT (by omega)]
theorem P_best_y (hz : ZW T A n Q k I s D f) (hT : T + 500 < 1000000) (ha : 0 ≤ a ∧ a < A 0 3) (hc : 1 ≤ b ∧ b ≤ 200) : ∃ v : Int32, cA (fun M => CW M A n Q k I s D f) (fun M => CW M A n Q k I s D f) 262 [pR 1 0, pI (ii a), pI (ii b), p0, p0, p0] v ∧ rA (fun M => RWx M A n Q k I s D f) (fun M => RWx M A n Q k I s D f) 309 [pR 13 819, pI (ii a), pI (ii b), p0, p0, p0, p0] v 0 := by
  have g := hz.1.1.1
  refine ⟨ii (brA A a b.toNat (A 0 0).toNat).1, fun M X h => ?_, fun M X h => ?_⟩
  · obtain ⟨M', a1, a2, a3⟩ := C_best (X := X) (n9 := b) hz hT ha (by omega) (A 0 0).toNat 0 M (by omega) h
    refine ⟨M', ?_, a2, a3⟩
    have a1 : ev true 262 0 50 [pR 1 0, pI (ii a), pI (ii b), pI (ii 0), pI (ii (-1)), pI (ii 0)] [] M X = _ := a1
    rw [q262_0, h.1.1.2.2.2.1, S1 (b32 (by omega)) (by omega), kt1, q262_11, ii_m1, i_0, bIT, decide_eq_true ha, cond_true, i_1, ltF (by omega), i_200, ltF (by omega), a1]
  · have h7 := h.u7 (v := ii 0) hz
    obtain ⟨M', a1, a2, a3, a4⟩ := R_best (X := X) (n9 := b) hz hT ha (by omega) (A 0 0).toNat 0 _ p0 (by omega) h7
    refine ⟨M', ?_, a2, fun y hy => by rw [a3 y hy, fr7 y hy], by rw [a4, st7]⟩
    have a1 : ev true 309 0 49 [pR 13 819, pI (ii a), pI (ii b), pI (ii 0), pI (ii (-1)), pI (ii 0), p0] [] _ X = _ := a1
    rw [q309_0, S116' h hz (b32 (by omega)), kb1, q309_6, i_0, bIT, decide_eq_true ha, cond_true, i_1, i_200, S28 (b32 (by omega)) (b32 (by omega)) (b32 (by omega)), kb1, q309_21, i_0, bIT, decide_eq_true hc, cond_true, q309_29, st7, ii_m1, i_0, ltF (by omega), a1]
theorem S57 (hs : STv M s R) (hl : StL s) (hm : SMI R) (ha : 0 ≤ a ∧ a < 6) : ev true 57 0 0 [pR 6 s, pI (ii a)] [] M X = some (.inl (some (pI (ii (R 0 6 - R 47 a)))), M, X) := by
  have s11 : ∀ j, 0 ≤ j → j < 6 → cl M (s + 33) j = ii (R 47 j) := by obtain ⟨-, -, -, -, -, -, -, -, -, -, h, -⟩ := hs; exact h
  have l10 : rl (s + 33) = 6 := by obtain ⟨-, -, -, -, -, -, -, -, -, -, l, -⟩ := hl; exact l
  rw [q57_0, sum6 s11 l10, kb1, q57_7, S12 ha.1 (by omega), kb1, s11 a ha.1 ha.2, q57_15, ii_sub, ← hm.2.1]
theorem sil_PW (h : PW A T) (ha : 0 ≤ a) : PW (upA A 44 a 0) T := by
  obtain ⟨hi, hh, hl, hs, hg⟩ := h
  exact ⟨sil_INV hi, hh.mv (by rw [upA_f (by decide)]) (by rw [upA_f (by decide)]) (upA_f (by decide)) (upA_f (by decide)), hl.sp sil_SP, hs.mv (by rw [upA_f (by decide)]) (by rw [upA_f (by decide)]) (upA_f (by decide)) (upA_f (by decide)) (upA_f (by decide)), hg.mv (by rw [upA_f (by decide)]) (by rw [upA_f (by decide)]) (upA_f (by decide))⟩
theorem P_with_1 (hz : ZW T A n Q k I s D f) (ha : B32 a) (hc : ¬ (0 ≤ a ∧ a < A 0 3)) : cT (fun M => CW M A n Q k I s D f) 263 [pR 1 0, pI (ii a), pI (ii b)] 1 ∧ rA (fun M => RWx M A n Q k I s D f) (fun M => RWx M A n Q k I s D f) 310 [pR 13 819, pI (ii a), pI (ii b)] (ii 0) 1 := by
  have g := hz.1.1.1
  refine ⟨fun M X h hX => ?_, fun M X h => ⟨upM M 819 7 (ii 1), ?_, h.u7 hz, fr7, st7⟩⟩
  · rw [q263_0, h.1.1.2.2.2.1, S1 ha (by omega), kt1, q263_11, i_0, bIT, decide_eq_false hc, cond_false, thT hX (by decide) (by decide)]
  · rw [q310_0, S116' h hz ha, kb1, q310_6, i_0, bIT, decide_eq_false hc, cond_false, q310_29, i_1, st7, i_0, ltT (by omega), q310_58]
theorem P_with_2 (hz : ZW T A n Q k I s D f) (ha : 0 ≤ a ∧ a < A 0 3) (hb : B32 b) (hc : ¬ (0 ≤ b ∧ b ≤ 500)) : cT (fun M => CW M A n Q k I s D f) 263 [pR 1 0, pI (ii a), pI (ii b)] 2 ∧ rA (fun M => RWx M A n Q k I s D f) (fun M => RWx M A n Q k I s D f) 310 [pR 13 819, pI (ii a), pI (ii b)] (ii 0) 2 := by
  have g := hz.1.1.1
  refine ⟨fun M X h hX => ?_, fun M X h => ⟨upM M 819 7 (ii 2), ?_, h.u7 hz, fr7, st7⟩⟩
  · obtain ⟨b1, b2⟩ := hb
    rw [q263_0, h.1.1.2.2.2.1, S1 (b32 (by omega)) (by omega), kt1, q263_11, i_0, bIT, decide_eq_true ha, cond_true, ilt (by omega), i_500, ilt (by omega)]
    by_cases c1 : b < 0
    · rw [if_pos c1, q263_33, thT hX (by decide) (by decide)]
    · rw [if_neg c1, if_pos (by omega), q263_33, thT hX (by decide) (by decide)]
  · rw [q310_0, S116' h hz (b32 (by omega)), kb1, q310_6, i_0, bIT, decide_eq_true ha, cond_true, i_500, S28 hb (b32 (by omega)) (b32 (by omega)), kb1, q310_21, i_0, bIT, decide_eq_false hc, cond_false, q310_29, i_2, st7, i_0, ltT (by omega), q310_58]
/-- what is taken of all others, with the side or without: the reference -/
theorem R_others (F : Bool) (h : RWx M A n Q k I s D f) (hz : ZW T A n Q k I s D f) (hT : T + 500 < 1000000) (ha : 0 ≤ a ∧ a < A 0 3) (hn : 0 ≤ b ∧ b ≤ 500) : ∃ M', ev true 305 0 0 [pR 13 819, pI (ii a), pI (ii b), pI (bI F), p0, p0] [] M X = some (.inl (some (pI (ii ((runA (bif F then a else -1) b.toNat (bif F then upA A 44 a 0 else A) 0 6 - runA (bif F then a else -1) b.toNat (bif F then upA A 44 a 0 else A) 47 a) - (A 0 6 - A 47 a))))), M', X) ∧ RWx M' A n Q k I s D f ∧ (∀ b, b < 819 → M' b = M b) ∧ M' 819 7 = M 819 7 := by
  have hi := hz.1.1
  have g := hi.1
  obtain ⟨M1, a1, a2, a3⟩ := asd0 (M := M) (X := X)
  have e1 : M1 820 = M 820 := a2 820 (by decide)
  -- the silenced one
  obtain ⟨M2, B, off, b1, b2, b3, b4, b5, b6, b7, b8, b9⟩ : ∃ (M2 : Mem) (B : AT) (off : Int), (∀ z4 z5, ev true 305 0 11 [pR 13 819, pI (ii a), pI (ii b), pI (bI F), z4, z5] [] M1 X = ev true 305 0 35 [pR 13 819, pI (ii a), pI (ii b), pI (bI F), z4, z5] [] M2 X) ∧ B = (bif F then upA A 44 a 0 else A) ∧ off = (bif F then a else -1) ∧ RR M2 B ∧ PW B T ∧ SP A B ∧ M2 819 8 = ii off ∧ (∀ j, j ≠ 8 → M2 819 j = M1 819 j) ∧ ((∀ b, b ≠ 819 → b ≠ 820 → M2 b = M1 b) ∧ ∀ z, 0 ≤ z → (z = 10 ∨ 934 ≤ z) → rr M2 z = rr M1 z) := by
    cases F with
    | false => exact ⟨M1, A, -1, fun z4 z5 => by rw [q305_11, i_0, bIT, cond_false], rfl, rfl, RR_k h.1.1 e1, hz.1, SP.rf, by rw [a2 819 (by decide)]; exact h.1.2.2.2, fun _ _ => rfl, fun _ _ _ => rfl, fun _ _ _ => rfl⟩
    | true =>
      have f2 : FrR (upM M1 819 8 (ii a)) (sr (upM M1 819 8 (ii a)) (66 + 10 * a + 4) (ii 0)) := FrR.sr (by omega) (by omega)
      refine ⟨sr (upM M1 819 8 (ii a)) (66 + 10 * a + 4) (ii 0), upA A 44 a 0, a, fun z4 z5 => ?_, rfl, rfl, RR_44z (RR_k (RR_k h.1.1 e1) (by funext y; exact up_n (by decide))) ha.1 (by omega), sil_PW hz.1 ha.1, sil_SP, ?_, fun j hj => ?_, fun y y1 y2 => ?_, fun z z1 z2 => ?_⟩
      · rw [q305_11, i_0, bIT, cond_true, i_66, i_10, i_4, ii_mul, ii_add, ii_add, inR (by omega), sr_i (M := upM M1 819 8 (ii a)) (by omega)]
      · rw [f2.2.1 8 (by decide) (by decide), up_s, if_pos rfl]
      · rw [sr_n (by decide), up_d hj]
      · funext z; rw [sr_n y2, up_n y1]
      · rw [f2.2.2 z z1 z2, rr_un (by decide)]
  have t2 : TXT M2 B := h.1.2.1.cp (fun z z1 z2 z3 => (b9.2 z z1 z3).trans (rr_at e1)) b6
  have ho : -1 ≤ off ∧ off < 100 := by rw [b3]; cases F <;> simp only [cond_true, cond_false] <;> omega
  obtain ⟨M3, c1, c2, c3, c4⟩ := S296 (X := X) (n := b.toNat) ⟨b4, b5.1, by omega, b5.2.1⟩ t2 (by omega) (by omega) b7 ho
  rw [show ((b.toNat : Nat) : Int) = b by omega] at c1
  have f9 : FrT9 M (upM M3 819 8 (ii (-1))) := ⟨fun y d1 d2 d3 d4 => by
    funext z
    rw [up_n d1, c4.1 y d1 d2 d4, b9.1 y d1 d2, a2 y d3], fun j d1 d2 d3 => by rw [up_d d1, c4.2.1 j d2 d3, b8 j d1, a2 819 (by decide)], fun z d1 d2 => by rw [rr_un (by decide), c4.2.2 z d1 d2, b9.2 z d1 d2, rr_at e1]⟩
  have h22 : ∀ j, upM M3 819 8 (ii (-1)) 822 j = if j < 1434 then M 820 j else M 822 j := fun j => by rw [up_n (by decide), c4.1 822 (by decide) (by decide) (by decide), b9.1 822 (by decide) (by decide)]; exact a3 j
  obtain ⟨M4, d1, d2, d3, d4⟩ := asd (X := X) f9 h22
  have ef : ∀ j, j ≠ 8 → j ≠ 10 → j ≠ 11 → M4 819 j = M 819 j := fun j j0 j1 j2 => by rw [d4, up_d j0, c4.2.1 j j1 j2, b8 j j0, a2 819 (by decide)]
  have e8 : M4 819 8 = M 819 8 := by rw [d4, up_s, if_pos rfl, h.1.2.2.2]
  refine ⟨M4, ?_, h.asd hz d2 d3 (ef _ (by decide) (by decide) (by decide)) (ef _ (by decide) (by decide) (by decide)) e8 (ef _ (by decide) (by decide) (by decide)) (ef _ (by decide) (by decide) (by decide)), fun y hy => d3 y (by omega) (by omega) (by omega), ef 7 (by decide) (by decide) (by decide)⟩
  have t6 : M2 820 6 = ii (B 0 6) := b4.1 6 (by omega) (by omega)
  have w7 := (b4.2.2.2.1 a ha.1 (by omega)).2.2.2.2.2.2.2.1
  have t6' : M3 820 6 = ii (runA off b.toNat B 0 6) := c2.1.1 6 (by omega) (by omega)
  have w7' := (c2.1.2.2.2.1 a ha.1 (by omega)).2.2.2.2.2.2.2.1
  have eB : B 0 6 = A 0 6 ∧ B 47 a = A 47 a := by
    rw [b2]
    cases F
    · exact ⟨rfl, rfl⟩
    · exact ⟨upA_n (by decide), upA_n (by decide)⟩
  rw [← b2, ← b3, q305_0, a1, kb0, b1, q305_35, i_6, inR (by omega), i_7, S25 (by omega), kb1, t6, w7, q305_49, ii_sub, c1, kb0, q305_57, i_6, inR (by omega), i_7, S25 (by omega), kb1, t6', w7', q305_71, ii_sub, ii_sub, ii_m1, d1, kb0, q305_93, eB.1, eB.2]
theorem P_with_y (hz : ZW T A n Q k I s D f) (hT : T + 500 < 1000000) (ha : 0 ≤ a ∧ a < A 0 3) (hc : 0 ≤ b ∧ b ≤ 500) : ∃ v : Int32, cA (fun M => CW M A n Q k I s D f) (fun M => CW M A n Q k I s D f) 263 [pR 1 0, pI (ii a), pI (ii b)] v ∧ rA (fun M => RWx M A n Q k I s D f) (fun M => RWx M A n Q k I s D f) 310 [pR 13 819, pI (ii a), pI (ii b)] v 0 := by
  have g := hz.1.1.1
  refine ⟨ii ((runA a b.toNat (upA A 44 a 0) 0 6 - runA a b.toNat (upA A 44 a 0) 47 a) - (runA (-1) b.toNat A 0 6 - runA (-1) b.toNat A 47 a)), fun M X h => ?_, fun M X h => ?_⟩
  · obtain ⟨M1, a1, a2, a3, a4⟩ := S209w (X := X) (WTof h hz (by omega)) stl635 (by omega) (by omega)
    obtain ⟨M2, b1, b2, b3⟩ := S251 (X := X) (n := b.toNat) a2 (by omega) (by omega) (by rw [a3]; exact h.1.2.2) (by omega)
    rw [show ((b.toNat : Nat) : Int) = b by omega] at b1
    have f2 : FrG M M2 := FrG.tr (M2 := M1) (fun y c1 _ _ => a4 y (by omega)) (FrG.s6 b3)
    have w2 := h.trial f2
    obtain ⟨M3, c1, c2, c3, c4⟩ := S209w (X := X) (WTof w2 hz (by omega)) stl685 (by omega) (by omega)
    obtain ⟨M4, d1, d2, d3, d4⟩ := S72 (X := X) c2 ha.1 (by omega)
    obtain ⟨M5, e1, e2, e3⟩ := S251 (X := X) (n := b.toNat) d2 (by omega) (by omega) d3 (by omega)
    rw [show ((b.toNat : Nat) : Int) = b by omega] at e1
    have f5 : FrG M M5 := ((f2.tr (M3 := M3) (fun y c1 _ _ => c4 y (by omega))).tr (M3 := M4) (fun y c1 _ _ => d4 y (by omega))).tr (FrG.s7 e3)
    have w5 := h.trial f5
    have s635 : STv M5 635 (runA (-1) b.toNat A) := STv_k b2.1.2.2.1 (fun y c1 c2 => by rw [e3.1 y (by omega) (by omega) (by omega), d4 y (by omega), c4 y (by omega)]) rfl
    refine ⟨M5, ?_, w5, f5.hi⟩
    have m1 := (hz.1.run (off := -1) b.toNat).2.2.2.1
    have m2 := ((sil_PW hz.1 ha.1).run (off := a) b.toNat).2.2.2.1
    rw [q263_0, h.1.1.2.2.2.1, S1 (b32 (by omega)) (by omega), kt1, q263_11, i_0, bIT, decide_eq_true ha, cond_true, ltF (by omega), i_500, ltF (by omega), a1, kt0, q263_52, b1, kt0, q263_64, c1, kt0, q263_75, d1, kt0, q263_83, e1, kt0, q263_95, S57 e2.1.2.2.1 stl685 m2 (by omega), kt1, q263_103, S57 s635 stl635 m1 (by omega), kt1, q263_111, ii_sub]
  · have h7 := h.u7 (v := ii 0) hz
    obtain ⟨M1, a1, a2, a3, a4⟩ := R_others (X := X) (a := a) (b := b) true h7 hz hT ha hc
    obtain ⟨M2, b1, b2, b3, b4⟩ := R_others (X := X) (a := a) (b := b) false a2 hz hT ha hc
    simp only [cond_true] at a1
    simp only [cond_false] at b1
    have a1 : ev true 305 0 0 [pR 13 819, pI (ii a), pI (ii b), pI (ii 1), p0, p0] [] _ X = _ := a1
    have b1 : ev true 305 0 0 [pR 13 819, pI (ii a), pI (ii b), pI (ii 0), p0, p0] [] _ X = _ := b1
    refine ⟨M2, ?_, b2, fun y hy => by rw [b3 y hy, a3 y hy, fr7 y hy], by rw [b4, a4, st7]⟩
    rw [q310_0, S116' h hz (b32 (by omega)), kb1, q310_6, i_0, bIT, decide_eq_true ha, cond_true, i_500, S28 (b32 (by omega)) (b32 (by omega)) (b32 (by omega)), kb1, q310_21, i_0, bIT, decide_eq_true hc, cond_true, q310_29, st7, i_0, ltF (by omega), i_1, a1, kb1, q310_50, i_0, b1, kb1, q310_57, ii_sub, q310_58]
    exact congrArg (fun v => some ((Sum.inl (some (pI (ii v))), M2, X) : PRs)) (by omega)
end BES
