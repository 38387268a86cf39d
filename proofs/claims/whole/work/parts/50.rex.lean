/-! the reference: what is taken -/
section REX
set_option maxRecDepth 100000
variable {u s p l t g : Nat} {j k q e w c T tu nx v off sh i z y : Int} {A A' : AT} {M M' : Mem} {X : PX} {f : Nat}
theorem i_655 : (655 : Int32) = ii 655 := rfl
theorem S114 (h : WR M A T) (h1 : 0 ≤ e) (h2 : e < A 0 1) : ev true 114 0 0 [pR 13 819, pI (ii e)] [] M X = some (.inl (some (pI (ii (mayA A e)))), M, X) := by
  obtain ⟨hr, hi, hT, hh⟩ := h
  obtain ⟨x1, x2, x3, x4, x5, x6, x7, x8, x9, x10⟩ := hi.2.1 e h1 h2
  have g := hi.1
  obtain ⟨r0, r1, r2, r3, r4⟩ := hr.2.1 e h1 (by omega)
  have t5 : M 820 5 = ii (A 0 5) := hr.1 5 (by omega) (by omega)
  rw [q114_0, i_3, S29 (by omega), kb1, q114_6, r3, i_0, ilt (by omega)]
  unfold mayA
  by_cases hc : A 33 e < 0
  · rw [if_pos hc, q114_37, x9 hc, if_neg (by omega)]
  · rw [if_neg hc, i_3, S29 (by omega), kb1, q114_20, i_1, S29 (by omega), kb1, q114_26, r1, r3, t5, i_5, inR (by omega), ii_add, ii_sub, ilt (by omega), q114_37, x10 (by omega)]
    by_cases hd : 0 < A 33 e + A 31 e - A 0 5
    · rw [if_pos hd, if_pos hd]
    · rw [if_neg hd, if_neg hd]
theorem S36l (hq : 0 ≤ q ∧ q < 40) : ∀ (m : Nat) (i : Int) (M1 : Mem), i + m = 6 → 0 ≤ i → ∃ M2, ev true 36 0 2 [pR 13 819, pI (ii q), pI (ii i)] [] M1 X = some (.inl none, M2, X) ∧ (∀ b, b ≠ 820 → M2 b = M1 b) ∧ ∀ z, 0 ≤ z → rr M2 z = if 174 + 6 * q + i ≤ z ∧ z < 174 + 6 * q + 6 then ii (-1) else rr M1 z := by
  intro m
  induction m with
  | zero =>
    intro i M1 h1 h2
    refine ⟨M1, ?_, fun _ _ => rfl, fun z hz => by rw [if_neg (by omega)]⟩
    rw [q36_2, i_6, ltF (by omega)]
  | succ m ih =>
    intro i M1 h1 h2
    obtain ⟨M2, t1, t2, t3⟩ := ih (i + 1) (sr M1 (174 + 6 * q + i) (ii (-1))) (by omega) (by omega)
    refine ⟨M2, ?_, fun b hb => by rw [t2 b hb, sr_n hb], fun z hz => ?_⟩
    · rw [q36_2, i_6, ltT (by omega), i_174, ii_mul, ii_add, ii_add, inR (by omega), sr_i (M := M1) (by omega), ii_m1, i_1, ii_add, t1]
    · rw [t3 z hz, rr_sr (by omega) hz]
      by_cases hc : 174 + 6 * q + (i + 1) ≤ z ∧ z < 174 + 6 * q + 6
      · rw [if_pos hc, if_pos (by omega)]
      · rw [if_neg hc]
        by_cases hd : z = 174 + 6 * q + i
        · rw [if_pos hd, if_pos (by omega)]
        · rw [if_neg hd, if_neg (by omega)]
def clrA (A : AT) (q : Int) : AT := upA (upA (upA A 20 q (-1)) 21 q (-1)) 22 q (-1)
theorem S36 (h : RR M A) (hN : A 0 0 ≤ 40) (h1 : 0 ≤ q) (h2 : q < A 0 0) (h3 : A 25 q = -1) : ∃ M', ev true 36 0 0 [pR 13 819, pI (ii q), p0] [] M X = some (.inl none, M', X) ∧ RR M' (clrA A q) ∧ FrR M M' := by
  obtain ⟨M', t1, t2, t3⟩ := S36l (q := q) (X := X) (by omega) 6 0 M (by omega) (by omega)
  have lo : ∀ z, 0 ≤ z → (z < 174 + 6 * q ∨ 174 + 6 * q + 6 ≤ z) → rr M' z = rr M z := fun z hz hc => by rw [t3 z hz, if_neg (by omega)]
  have hi : ∀ z, 174 + 6 * q ≤ z → z < 174 + 6 * q + 6 → rr M' z = ii (-1) := fun z hz hc => by rw [t3 z (by omega), if_pos (by omega)]
  refine ⟨M', by rw [q36_0, i_0, t1], ?_, fun b _ a _ => t2 b a, fun k _ _ => by rw [t2 819 (by decide)], fun z hz hc => lo z hz (by omega)⟩
  obtain ⟨r0, rx, rw9, rs, rc, rp, rb, rq, rl9⟩ := h
  unfold RR R0 RX RWa RSi RCo RPl RPb RQu RLg clrA
  simp (disch := omega) only [upA_f]
  refine ⟨fun k a b => ?_, fun e a b => ?_, fun e a b => ?_, fun e a b => ?_, fun e a b => ?_, fun y a b => ?_, fun y k a0 a b c d => ?_, fun e k a b c d => ?_, fun e k a b c d => ?_⟩
  · rw [lo k a (by omega)]; exact r0 k a b
  · simp (disch := omega) only [lo]; exact rx e a b
  · simp (disch := omega) only [lo]; exact rw9 e a b
  · simp (disch := omega) only [lo]; exact rs e a b
  · simp (disch := omega) only [lo]; exact rc e a b
  · by_cases hy : y = q
    · subst hy
      simp (disch := omega) only [hi, upA_s, upA_n, if_true, h3]
      exact ⟨trivial, trivial, trivial, fun h => absurd rfl h, trivial⟩
    · simp (disch := omega) only [lo, upA_s, upA_n, if_neg]
      exact rp y a b
  · rw [lo _ (by omega) (by omega)]; exact rb y k a0 a b c d
  · rw [lo _ (by omega) (by omega), lo _ (by omega) (by omega)]; exact rq e k a b c d
  · rw [lo _ (by omega) (by omega)]; exact rl9 e k a b c d
theorem S124l : ∀ (m : Nat) (x : Int) (M1 : Mem), x = 660 + m → x ≤ 933 → (∀ b, b ≠ 820 → M1 b = M b) → (∀ z, 0 ≤ z → rr M1 z = if x < z ∧ z ≤ 933 then rr M (z - 7) else rr M z) → ∃ M2, ev true 124 0 4 [pR 13 819, pI (ii e), pI (ii q), pI (ii x)] [] M1 X = ev true 124 0 4 [pR 13 819, pI (ii e), pI (ii q), pI (ii 660)] [] M2 X ∧ (∀ b, b ≠ 820 → M2 b = M b) ∧ ∀ z, 0 ≤ z → rr M2 z = if 660 < z ∧ z ≤ 933 then rr M (z - 7) else rr M z := by
  intro m
  induction m with
  | zero =>
    intro x M1 h1 h2 h3 h4
    have hx : x = 660 := by omega
    subst hx
    exact ⟨M1, rfl, h3, h4⟩
  | succ m ih =>
    intro x M1 h1 h2 h3 h4
    obtain ⟨M2, t1, t2, t3⟩ := ih (x - 1) (sr M1 x (rr M1 (x - 7))) (by omega) (by omega) (fun b hb => by rw [sr_n hb, h3 b hb]) (fun z hz => by
      rw [rr_sr (by omega) hz]
      by_cases hzx : z = x
      · subst hzx
        rw [if_pos rfl, if_pos (by omega), h4 (z - 7) (by omega), if_neg (by omega)]
      · rw [if_neg hzx, h4 z hz]
        by_cases hc : x < z ∧ z ≤ 933
        · rw [if_pos hc, if_pos (by omega)]
        · rw [if_neg hc, if_neg (by omega)])
    refine ⟨M2, ?_, t2, t3⟩
    rw [q124_4, i_661, ltF (by omega), i_7, ii_sub, inR (by omega), inR (by omega), ii_m1, ii_add, show x + -1 = x - 1 by omega, rr_i M1 (by omega), sr_i (M := M1) (by omega), t1]
theorem S124 (h : RR M A) (hi : INV A T) (h1 : 0 ≤ q) (h2 : q < A 0 0) (h3 : A 20 q ≠ -1) : ∃ M', ev true 124 0 0 [pR 13 819, pI (ii e), pI (ii q), p0] [] M X = some (.inl none, M', X) ∧ RR M' (logA A (logV A e q)) ∧ FrR M M' := by
  have g := hi.1
  obtain ⟨r0, rx, rw9, rs, rc, rp, rb, rq, rl9⟩ := h
  obtain ⟨p0, p1, p2, p34, p5⟩ := rp q h1 h2
  obtain ⟨p3, p4⟩ := p34 h3
  have t5 : rr M 5 = ii (A 0 5) := r0 5 (by omega) (by omega)
  have t8 : rr M 8 = ii (A 0 8) := r0 8 (by omega) (by omega)
  obtain ⟨M1, a1, a2, a3⟩ := S124l (X := X) (e := e) (q := q) (M := M) 273 933 M (by omega) (by omega) (fun _ _ => rfl) (fun z hz => by rw [if_neg (by omega)])
  have lo : ∀ z, 0 ≤ z → z < 660 → rr M1 z = rr M z := fun z hz hc => by rw [a3 z hz, if_neg (by omega)]
  obtain ⟨M2, e2⟩ : ∃ M2, M2 = sr (sr M1 654 (ii (A 0 5))) 655 (ii e) := ⟨_, rfl⟩
  obtain ⟨M3, e3⟩ : ∃ M3, M3 = sr M2 656 (ii (A 20 q)) := ⟨_, rfl⟩
  obtain ⟨M4, e4⟩ : ∃ M4, M4 = sr M3 657 (ii (A 21 q)) := ⟨_, rfl⟩
  obtain ⟨M5, e5⟩ : ∃ M5, M5 = sr M4 658 (ii (A 24 q)) := ⟨_, rfl⟩
  obtain ⟨M6, e6⟩ : ∃ M6, M6 = sr M5 659 (ii (A 0 5 - A 23 q)) := ⟨_, rfl⟩
  obtain ⟨M7, e7⟩ : ∃ M7, M7 = sr M6 660 (ii (A 22 q)) := ⟨_, rfl⟩
  obtain ⟨M8, e8⟩ : ∃ M8, M8 = sr M7 8 (ii (if 40 < A 0 8 + 1 then 40 else A 0 8 + 1)) := ⟨_, rfl⟩
  have g2 : ∀ z, 0 ≤ z → z < 654 → rr M2 z = rr M z := fun z hz hc => by
    rw [e2]; simp (disch := omega) only [rr_sr, if_neg]; exact lo z hz (by omega)
  have g3 : ∀ z, 0 ≤ z → z < 654 → rr M3 z = rr M z := fun z hz hc => by
    rw [e3]; simp (disch := omega) only [rr_sr, if_neg]; exact g2 z hz hc
  have g4 : ∀ z, 0 ≤ z → z < 654 → rr M4 z = rr M z := fun z hz hc => by
    rw [e4]; simp (disch := omega) only [rr_sr, if_neg]; exact g3 z hz hc
  have g5 : ∀ z, 0 ≤ z → z < 654 → rr M5 z = rr M z := fun z hz hc => by
    rw [e5]; simp (disch := omega) only [rr_sr, if_neg]; exact g4 z hz hc
  have g6 : ∀ z, 0 ≤ z → z < 654 → rr M6 z = rr M z := fun z hz hc => by
    rw [e6]; simp (disch := omega) only [rr_sr, if_neg]; exact g5 z hz hc
  have g7 : ∀ z, 0 ≤ z → z < 654 → rr M7 z = rr M z := fun z hz hc => by
    rw [e7]; simp (disch := omega) only [rr_sr, if_neg]; exact g6 z hz hc
  have g8 : ∀ z, 0 ≤ z → z < 654 → z ≠ 8 → rr M8 z = rr M z := fun z hz hc hn => by
    rw [e8]; simp (disch := omega) only [rr_sr, if_neg]; exact g7 z hz hc
  have fr : FrR M1 M8 := by
    subst e8 e7 e6 e5 e4 e3 e2
    exact (((((((FrR.sr (by omega) (by omega)).tr (FrR.sr (by omega) (by omega))).tr (FrR.sr (by omega) (by omega))).tr (FrR.sr (by omega) (by omega))).tr (FrR.sr (by omega) (by omega))).tr (FrR.sr (by omega) (by omega))).tr (FrR.sr (by omega) (by omega))).tr (FrR.sr (by omega) (by omega))
  have f1 : FrR M M1 := ⟨fun b _ a _ => a2 b a, fun k _ _ => by rw [a2 819 (by decide)], fun z hz hc => by rw [a3 z hz, if_neg (by omega)]⟩
  refine ⟨M8, ?_, ?_, f1.tr fr⟩
  · have b5 : M1 820 5 = ii (A 0 5) := by
      show rr M1 5 = _
      rw [lo 5 (by omega) (by omega)]; exact t5
    have b6 : M4 820 5 = ii (A 0 5) := by
      show rr M4 5 = _
      rw [g4 5 (by omega) (by omega)]; exact t5
    have b7 : M5 820 5 = ii (A 0 5) := by
      show rr M5 5 = _
      rw [g5 5 (by omega) (by omega)]; exact t5
    have b8 : M7 820 8 = ii (A 0 8) := by
      show rr M7 8 = _
      rw [g7 8 (by omega) (by omega)]; exact t8
    rw [q124_0, i_933, a1, q124_4, i_661, ltT (by omega), i_5, inR (by omega), i_654, inR (by omega), i_655, inR (by omega), b5]
    rw [show upM (upM M1 820 654 (ii (A 0 5))) 820 655 (ii e) = M2 from e2.symm, i_0, S24 (by omega), kb1, q124_68, i_656, inR (by omega), sr_i (M := M2) (by omega), g2 _ (by omega) (by omega), p0, ← e3, i_1, S24 (by omega), kb1, q124_82, i_657, inR (by omega), sr_i (M := M3) (by omega), g3 _ (by omega) (by omega), p1, ← e4, i_4, S24 (by omega), kb1, q124_96, i_658, inR (by omega), sr_i (M := M4) (by omega), g4 _ (by omega) (by omega), p4, ← e5, i_5, inR (by omega), i_3, S24 (by omega), kb1, b7, q124_116, i_659, inR (by omega), g5 _ (by omega) (by omega), p3, ii_sub, sr_i (M := M5) (by omega), ← e6, i_2, S24 (by omega), kb1, q124_131, i_660, inR (by omega), sr_i (M := M6) (by omega), g6 _ (by omega) (by omega), p2, ← e7, i_8, inR (by omega), b8, i_1, ii_add, i_40, ilt (by omega), q124_152, inR (by omega), e8]
    have ec : (if A 0 8 + 1 < 40 then ii (A 0 8 + 1) else ii 40) = ii (if 40 < A 0 8 + 1 then 40 else A 0 8 + 1) := by
      by_cases c1 : A 0 8 + 1 < 40
      · rw [if_pos c1, if_neg (by omega)]
      · rw [if_neg c1]
        by_cases c2 : 40 < A 0 8 + 1
        · rw [if_pos c2]
        · rw [if_neg c2, show A 0 8 + 1 = 40 by omega]
    rw [ec, sr_i (M := M7) (by omega)]
  · unfold RR R0 RX RWa RSi RCo RPl RPb RQu RLg
    simp (disch := omega) only [logA_f, logA_0, logA_08]
    refine ⟨fun k a b => ?_, fun e a b => ?_, fun e a b => ?_, fun e a b => ?_, fun e a b => ?_, fun y a b => ?_, fun y k a0 a b c d => ?_, fun e k a b c d => ?_, fun e k a b c d => ?_⟩
    · by_cases hk : k = 8
      · subst hk
        rw [logA_08, e8, rr_sr (by omega) (by omega), if_pos rfl]
      · rw [logA_0 hk, g8 k a (by omega) hk]; exact r0 k a b
    · simp (disch := omega) only [g8]; exact rx e a b
    · simp (disch := omega) only [g8]; exact rw9 e a b
    · simp (disch := omega) only [g8]; exact rs e a b
    · simp (disch := omega) only [g8]; exact rc e a b
    · simp (disch := omega) only [g8]; exact rp y a b
    · rw [g8 _ (by omega) (by omega) (by omega)]; exact rb y k a0 a b c d
    · have hz : A 44 e ≤ 20 := by
        rcases Int.lt_or_le e (A 0 3) with h | h
        · obtain ⟨-, -, -, -, -, -, -, -, q9, q10, -⟩ := hi.2.2.2.1 e a h
          exact q10
        · rw [hi.2.2.2.2.1 e h b]; omega
      rw [g8 _ (by omega) (by omega) (by omega), g8 _ (by omega) (by omega) (by omega)]; exact rq e k a b c d
    · rename_i w
      have hw : e < 40 := by
        split at b <;> omega
      rw [logA_70 (by omega)]
      subst e8 e7 e6 e5 e4 e3 e2
      by_cases h0 : e = 0
      · subst h0
        rw [if_pos (by omega : 7 * (0 : Int) + k < 7)]
        unfold logV
        rcases (by omega : k = 0 ∨ k = 1 ∨ k = 2 ∨ k = 3 ∨ k = 4 ∨ k = 5 ∨ k = 6) with rfl | rfl | rfl | rfl | rfl | rfl | rfl <;> simp (disch := omega) only [rr_sr, if_pos, if_neg]
      · have hb : e - 1 < A 0 8 := by
          split at b <;> omega
        have h9 := rl9 (e - 1) k (by omega) hb c d
        rw [if_neg (by omega : ¬ 7 * e + k < 7)]
        simp (disch := omega) only [rr_sr, if_neg]
        rw [a3 _ (by omega), if_pos (by omega), show 654 + 7 * e + k - 7 = 654 + 7 * (e - 1) + k by omega, h9, show 7 * e + k - 7 = 7 * (e - 1) + k by omega]
theorem RR_cg (h : RR M A) (he : ∀ f, f ≠ 35 → A' f = A f) : RR M A' := by
  unfold RR R0 RX RWa RSi RCo RPl RPb RQu RLg
  simp (disch := decide) only [he]
  exact h
theorem tak_cg (h : exitB A e) (hf : f ≠ 35) : takA A e q f = clrA (upA (upA (upA (upA (upA (logA A (logV A e q)) 0 6 (A 0 6 + 1)) 34 e (A 34 e + 1)) 33 e (A 0 5)) 28 (A 20 q) (A 28 (A 20 q) + 1)) 47 (A 21 q) (A 47 (A 21 q) + 1)) q f := by
  funext y
  unfold takA tak1 clrA
  rw [← Nat.add_zero f]
  by_cases h0 : f = 0
  · subst h0; simp (disch := omega) only [upA_n, upA_s]
  · by_cases h1 : f = 20
    · subst h1; simp (disch := omega) only [upA_n, upA_s]
    · by_cases h1 : f = 21
      · subst h1; simp (disch := omega) only [upA_n, upA_s]
      · by_cases h1 : f = 22
        · subst h1; simp (disch := omega) only [upA_n, upA_s]
        · by_cases h1 : f = 33
          · subst h1; simp (disch := omega) only [upA_n, upA_s]
          · by_cases h1 : f = 34
            · subst h1; simp (disch := omega) only [upA_n, upA_s]
            · by_cases h1 : f = 47
              · subst h1; simp (disch := omega) only [upA_n, upA_s]
              · by_cases h1 : f = 28
                · subst h1; simp (disch := omega) only [upA_n, upA_s]
                · simp (disch := omega) only [upA_n]
theorem S182b (h : WR M A T) (h1 : 0 ≤ e) (h2 : e < A 0 1) {z3 z4 : PV} : ∃ M' z3' z4', ev true 182 0 2 [pR 13 819, pI (ii e), z3, z4] [] M X = ev true 182 0 2 [pR 13 819, pI (ii (e + 1)), z3', z4'] [] M' X ∧ WR M' (exitA A e) T ∧ FrR M M' := by
  have hw := h
  obtain ⟨hr, hi, hT, hh⟩ := h
  obtain ⟨x1, x2, x3, x4, x5, x6, x7, x8, x9, x10⟩ := hi.2.1 e h1 h2
  have g := hi.1
  obtain ⟨r0, r1, r2, r3, r4⟩ := hr.2.1 e h1 (by omega)
  have t1 : M 820 1 = ii (A 0 1) := hr.1 1 (by omega) (by omega)
  obtain ⟨y3, y4, y5, y6, y7, y8, y9, y10⟩ := hi.2.2.2.2.2.2 (A 30 e) x1 x2
  obtain ⟨p0, p1, p2, p34, p5⟩ := hr.2.2.2.2.2.1 (A 30 e) x1 x2
  rw [q182_2, i_1, inR (by omega), t1, ltT (by omega), i_0, S29 (by omega), kb1, q182_18, r0, i_0, S24 (by omega), kb1, q182_25, p0, ii_m1, ieq (by omega)]
  by_cases c1 : A 20 (A 30 e) = -1
  · rw [if_pos c1, q182_160, i_1, ii_add, exitA_n (fun z => z.2.2.1 c1)]
    exact ⟨M, _, _, rfl, hw, FrR.rf⟩
  · obtain ⟨w0, w1, w2⟩ := hr.2.2.1 (A 20 (A 30 e)) (by omega) (by omega)
    obtain ⟨wi1, wi2, -⟩ := hi.2.2.1 (A 20 (A 30 e)) (by omega) (by omega)
    rw [if_neg c1, i_0, S30 (by omega), kb1, q182_37, w0, ieq (by omega)]
    by_cases c2 : A 26 (A 20 (A 30 e)) = e
    · rw [if_pos c2, i_2, S29 (by omega), kb1, q182_47, r2, i_0, ilt (by omega)]
      by_cases c3 : 0 < A 32 e
      · rw [if_pos c3, q182_160, i_1, ii_add, exitA_n (fun z => by have := z.1; omega)]
        exact ⟨M, _, _, rfl, hw, FrR.rf⟩
      · have hm : 0 ≤ mayA A e ∧ mayA A e < 2000000 := by
          unfold mayA
          split
          · rcases Int.lt_or_le (A 33 e) 0 with h | h
            · rw [x9 h] at *; omega
            · rw [x10 h] at *; omega
          · omega
        rw [if_neg c3, S114 hw h1 h2, kb1, q182_55, i_0, ilt (by omega)]
        by_cases c4 : 0 < mayA A e
        · have c5 : ¬ A 35 e ≤ A 0 5 := fun z => by unfold mayA at c4; rw [if_neg (by omega)] at c4; omega
          rw [if_pos c4, q182_160, i_1, ii_add, exitA_n (fun z => c5 z.2.1)]
          exact ⟨M, _, _, rfl, hw, FrR.rf⟩
        · have c5 : A 35 e ≤ A 0 5 := by
            unfold mayA at c4
            by_cases c6 : 0 < A 35 e - A 0 5
            · rw [if_pos c6] at c4; omega
            · omega
          have hb : exitB A e := ⟨by omega, c5, c1, c2⟩
          rw [exitA_t hb]
          have h25 : A 25 (A 30 e) = -1 := (y9 c1).2
          have h21 : 0 ≤ A 21 (A 30 e) := (y9 c1).1
          have h21b : A 21 (A 30 e) < 6 := by omega
          obtain ⟨M1, a1, a2, a3⟩ := S124 (X := X) (e := e) hr hi x1 x2 c1
          obtain ⟨M2, e2⟩ : ∃ M2, M2 = sr M1 6 (ii (A 0 6 + 1)) := ⟨_, rfl⟩
          obtain ⟨M3, e3⟩ : ∃ M3, M3 = sr M2 (12 + 5 * e + 4) (ii (A 34 e + 1)) := ⟨_, rfl⟩
          obtain ⟨M4, e4⟩ : ∃ M4, M4 = sr M3 (12 + 5 * e + 3) (ii (A 0 5)) := ⟨_, rfl⟩
          obtain ⟨M5, e5⟩ : ∃ M5, M5 = sr M4 (42 + 3 * A 20 (A 30 e) + 2) (ii (A 28 (A 20 (A 30 e)) + 1)) := ⟨_, rfl⟩
          obtain ⟨M6, e6⟩ : ∃ M6, M6 = sr M5 (66 + 10 * A 21 (A 30 e) + 7) (ii (A 47 (A 21 (A 30 e)) + 1)) := ⟨_, rfl⟩
          have b2 := RR_06 (v := A 0 6 + 1) a2
          rw [← e2] at b2
          have b3 := RR_34 (v := A 34 e + 1) b2 h1 (by omega)
          rw [← e3] at b3
          have b4 := RR_33 (v := A 0 5) b3 h1 (by omega)
          rw [← e4] at b4
          have b5 := RR_28 (v := A 28 (A 20 (A 30 e)) + 1) b4 (j := A 20 (A 30 e)) (by omega) (by omega)
          rw [← e5] at b5
          have b6 := RR_47 (v := A 47 (A 21 (A 30 e)) + 1) b5 h21 h21b
          rw [← e6] at b6
          obtain ⟨M7, s1, s2, s3⟩ := S36 (X := X) (q := A 30 e) b6 (by simp (disch := omega) only [upA_n, upA_d, logA_0]; omega) x1 (by simp (disch := omega) only [upA_n, upA_d, logA_0]; exact x2) (by simp (disch := omega) only [upA_n, logA_f]; exact h25)
          have k6 : rr M1 6 = ii (A 0 6) := by rw [a2.1 6 (by omega) (by omega), logA_0 (by decide)]
          have k34 : rr M2 (12 + 5 * e + 4) = ii (A 34 e) := by rw [(b2.2.1 e h1 (by omega)).2.2.2.2]; simp (disch := omega) only [upA_n, logA_f]
          have k5 : rr M3 5 = ii (A 0 5) := by rw [b3.1 5 (by omega) (by omega)]; simp (disch := omega) only [upA_n, upA_d, logA_0]
          have k28 : rr M4 (42 + 3 * A 20 (A 30 e) + 2) = ii (A 28 (A 20 (A 30 e))) := by rw [(b4.2.2.1 (A 20 (A 30 e)) (by omega) (by omega)).2.2]; simp (disch := omega) only [upA_n, logA_f]
          have k21 : rr M5 (174 + 6 * A 30 e + 1) = ii (A 21 (A 30 e)) := by rw [(b5.2.2.2.2.2.1 (A 30 e) x1 (by simp (disch := omega) only [upA_n, upA_d, logA_0]; exact x2)).2.1]; simp (disch := omega) only [upA_n, logA_f]
          have k47 : rr M5 (66 + 10 * A 21 (A 30 e) + 7) = ii (A 47 (A 21 (A 30 e))) := by rw [(b5.2.2.2.1 (A 21 (A 30 e)) h21 h21b).2.2.2.2.2.2.2.1]; simp (disch := omega) only [upA_n, logA_f]
          have ft : FrR M M7 := by
            refine a3.tr (FrR.tr ?_ s3)
            subst e6 e5 e4 e3 e2
            exact ((((FrR.sr (by omega) (by omega)).tr (FrR.sr (by omega) (by omega))).tr (FrR.sr (by omega) (by omega))).tr (FrR.sr (by omega) (by omega))).tr (FrR.sr (by omega) (by omega))
          have hI := tak_INV hi h1 h2 hb
          have hH := exit_HLD (e := e) hh
          rw [exitA_t hb] at hH
          refine ⟨M7, pI (ii (A 30 e)), pI (ii (A 20 (A 30 e))), ?_, ⟨RR_cg s2 (fun f hf => tak_cg hb hf), hI, hT, hH⟩, ft⟩
          rw [if_neg c4, a1, kb0, q182_67, i_6, inR (by omega), inR (by omega), show M1 820 6 = ii (A 0 6) from k6, i_1, ii_add, show upM M1 820 6 (ii (A 0 6 + 1)) = M2 from e2.symm, i_12, i_5, i_4, ii_mul, ii_add, ii_add, inR (by omega), inR (by omega), rr_i M2 (by omega), k34, ii_add, sr_i (M := M2) (by omega), ← e3, inR (by omega), show M3 820 5 = ii (A 0 5) from k5, i_3, ii_add, inR (by omega), sr_i (M := M3) (by omega), ← e4, i_42, i_2, ii_mul, ii_add, ii_add, inR (by omega), inR (by omega), rr_i M4 (by omega), k28, ii_add, sr_i (M := M4) (by omega), ← e5, S24 (by omega), kb1, q182_145, k21, i_10, i_66, i_7, ii_mul, ii_add, ii_add, inR (by omega), inR (by omega), rr_i M5 (by omega), k47, i_1, ii_add, sr_i (M := M5) (by omega), ← e6, s1, kb0, q182_160, i_1, ii_add]
    · rw [if_neg c2, q182_160, i_1, ii_add, exitA_n (fun z => c2 z.2.2.2)]
      exact ⟨M, _, _, rfl, hw, FrR.rf⟩
theorem S182l : ∀ (m : Nat) (e : Int) (A : AT) (M : Mem) (z3 z4 : PV), e + m = A 0 1 → 0 ≤ e → WR M A T → ∃ M', ev true 182 0 2 [pR 13 819, pI (ii e), z3, z4] [] M X = some (.inl none, M', X) ∧ WR M' (exitsA m e A) T ∧ FrR M M' := by
  intro m
  induction m with
  | zero =>
    intro e A M z3 z4 h1 h2 h
    have t1 : M 820 1 = ii (A 0 1) := h.1.1 1 (by omega) (by omega)
    have g := h.2.1.1
    exact ⟨M, by rw [q182_2, i_1, inR (by omega), t1, ltF (by omega)], h, FrR.rf⟩
  | succ m ih =>
    intro e A M z3 z4 h1 h2 h
    obtain ⟨M1, z3', z4', r1, r2, r3⟩ := S182b (X := X) (z3 := z3) (z4 := z4) h h2 (by omega)
    obtain ⟨M2, t1, t2, t3⟩ := ih (e + 1) (exitA A e) M1 z3' z4' (by rw [exit_SP.2.1]; omega) (by omega) r2
    exact ⟨M2, by rw [r1, t1], t2, r3.tr t3⟩
theorem S182 (h : WR M A T) : ∃ M', ev true 182 0 0 [pR 13 819, p0, p0, p0] [] M X = some (.inl none, M', X) ∧ WR M' (allExitsA A) T ∧ FrR M M' := by
  have g := h.2.1.1
  obtain ⟨M', t1, t2, t3⟩ := S182l (X := X) (A 0 1).toNat 0 A M p0 p0 (by omega) (by omega) h
  exact ⟨M', by rw [q182_0, i_0, t1], t2, t3⟩
end REX
