/-! the reference: all goes on -/
section RTU
set_option maxRecDepth 100000
variable {u s p l t g : Nat} {j k q e w c T tu nx v off sh i z y : Int} {A A' : AT} {M M' : Mem} {X : PX} {f : Nat}
theorem i_176 : (176 : Int32) = ii 176 := rfl
theorem ln825 : ln 825 = 6 := by decide +kernel
theorem S123a {la : Int} (hla : 174 ≤ la ∧ la < 1400) : ∀ (m : Nat) (i : Int) (M1 : Mem), i + m = 6 → 0 ≤ i → (∀ b, b ≠ 825 → M1 b = M b) → (∀ k, 0 ≤ k → k < i → M1 825 k.toNat = rr M (la + k)) → ∃ M2, ev true 123 0 16 [pR 13 819, pI (ii la), pI (ii i)] [] M1 X = ev true 123 0 49 [pR 13 819, pI (ii la), pI (ii (la + 5))] [] M2 X ∧ (∀ b, b ≠ 825 → M2 b = M b) ∧ ∀ k, 0 ≤ k → k < 6 → M2 825 k.toNat = rr M (la + k) := by
  intro m
  induction m with
  | zero =>
    intro i M1 h1 h2 h3 h4
    refine ⟨M1, ?_, h3, fun k a b => h4 k a (by omega)⟩
    rw [q123_16, i_6, ltF (by omega), i_1, ii_add, ii_sub, show la + 6 - 1 = la + 5 by omega]
  | succ m ih =>
    intro i M1 h1 h2 h3 h4
    obtain ⟨M2, t1, t2, t3⟩ := ih (i + 1) (upM M1 825 i.toNat (rr M1 (la + i))) (by omega) (by omega) (fun b hb => by funext y; rw [up_n hb, h3 b hb]) (fun k a b => by
      rw [up_s]
      by_cases hk : k = i
      · rw [if_pos (by rw [hk]), hk, rr_at (h3 820 (by decide))]
      · rw [if_neg (by omega)]; exact h4 k a (by omega))
    refine ⟨M2, ?_, t2, t3⟩
    rw [q123_16, i_6, ltT (by omega), ii_add, inR (by omega), inbT (by rw [ln825]; omega), ii_nat (by omega) (by omega), rr_i M1 (by omega), i_1, ii_add, t1]
theorem S123b {la : Int} (hla : 174 ≤ la ∧ la < 1400) : ∀ (m : Nat) (x : Int) (M1 : Mem), x = 179 + m → x ≤ la + 5 → (∀ b, b ≠ 820 → M1 b = M b) → (∀ z, 0 ≤ z → rr M1 z = if x < z ∧ z ≤ la + 5 then rr M (z - 6) else rr M z) → ∃ M2, ev true 123 0 49 [pR 13 819, pI (ii la), pI (ii x)] [] M1 X = ev true 123 0 79 [pR 13 819, pI (ii la), pI (ii 0)] [] M2 X ∧ (∀ b, b ≠ 820 → M2 b = M b) ∧ ∀ z, 0 ≤ z → rr M2 z = if 179 < z ∧ z ≤ la + 5 then rr M (z - 6) else rr M z := by
  intro m
  induction m with
  | zero =>
    intro x M1 h1 h2 h3 h4
    have hx : x = 179 := by omega
    subst hx
    refine ⟨M1, ?_, h3, h4⟩
    rw [q123_49, i_180, ltT (by omega), i_0]
  | succ m ih =>
    intro x M1 h1 h2 h3 h4
    obtain ⟨M2, t1, t2, t3⟩ := ih (x - 1) (sr M1 x (rr M1 (x - 6))) (by omega) (by omega) (fun b hb => by rw [sr_n hb, h3 b hb]) (fun z hz => by
      rw [rr_sr (by omega) hz]
      by_cases hzx : z = x
      · subst hzx
        rw [if_pos rfl, if_pos (by omega), h4 (z - 6) (by omega), if_neg (by omega)]
      · rw [if_neg hzx, h4 z hz]
        by_cases hc : x < z ∧ z ≤ la + 5
        · rw [if_pos hc, if_pos (by omega)]
        · rw [if_neg hc, if_neg (by omega)])
    refine ⟨M2, ?_, t2, t3⟩
    rw [q123_49, i_180, ltF (by omega), i_6, ii_sub, inR (by omega), inR (by omega), ii_m1, ii_add, show x + -1 = x - 1 by omega, rr_i M1 (by omega), sr_i (M := M1) (by omega), t1]
theorem S123c {la : Int} {cr : Int → Int32} (hcr : ∀ k, 0 ≤ k → k < 6 → M 825 k.toNat = cr k) : ∀ (m : Nat) (i : Int) (M1 : Mem), i + m = 6 → 0 ≤ i → (∀ b, b ≠ 820 → M1 b = M b) → (∀ z, 0 ≤ z → rr M1 z = if 174 ≤ z ∧ z < 174 + i then cr (z - 174) else rr M z) → ∃ M2, ev true 123 0 79 [pR 13 819, pI (ii la), pI (ii i)] [] M1 X = (if rr M2 174 = -1 then ev true 123 0 131 [pR 13 819, pI (ii la), pI (ii 6)] [] M2 X else ev true 123 0 131 [pR 13 819, pI (ii la), pI (ii 6)] [] (sr M2 176 (rr M2 176 + ii 1)) X) ∧ (∀ b, b ≠ 820 → M2 b = M b) ∧ ∀ z, 0 ≤ z → rr M2 z = if 174 ≤ z ∧ z < 180 then cr (z - 174) else rr M z := by
  intro m
  induction m with
  | zero =>
    intro i M1 h1 h2 h3 h4
    have hi : i = 6 := by omega
    subst hi
    refine ⟨M1, ?_, h3, h4⟩
    rw [q123_79, i_6, ltF (by omega), i_174, inR (by omega), i_176, inR (by omega), inR (by omega), i_1]
    rfl
  | succ m ih =>
    intro i M1 h1 h2 h3 h4
    obtain ⟨M2, t1, t2, t3⟩ := ih (i + 1) (sr M1 (174 + i) (cr i)) (by omega) (by omega) (fun b hb => by rw [sr_n hb, h3 b hb]) (fun z hz => by
      rw [rr_sr (by omega) hz]
      by_cases hzx : z = 174 + i
      · subst hzx
        rw [if_pos rfl, if_pos (by omega), show 174 + i - 174 = i by omega]
      · rw [if_neg hzx, h4 z hz]
        by_cases hc : 174 ≤ z ∧ z < 174 + i
        · rw [if_pos hc, if_pos (by omega)]
        · rw [if_neg hc, if_neg (by omega)])
    refine ⟨M2, ?_, t2, t3⟩
    rw [q123_79, i_6, ltT (by omega), inbT (by rw [ln825]; omega), i_174, ii_add, inR (by omega), ii_nat (z := i) (by omega) (by omega), show M1 825 i.toNat = cr i by rw [h3 825 (by decide)]; exact hcr i h2 (by omega), sr_i (M := M1) (by omega), i_1, ii_add, t1]
    rfl
theorem S123 (h : WR M A T) : ∃ M', ev true 123 0 0 [pR 13 819, p0, p0] [] M X = some (.inl none, M', X) ∧ WR M' (advA (A 0 0) A) T ∧ FrR M M' := by
  obtain ⟨hr, hi, hT, hh⟩ := h
  have g := hi.1
  have t0 : rr M 0 = ii (A 0 0) := hr.1 0 (by omega) (by omega)
  obtain ⟨la, hla⟩ : ∃ la, la = 174 + 6 * (A 0 0 - 1) := ⟨_, rfl⟩
  obtain ⟨M1, a1, a2, a3⟩ := S123a (M := M) (X := X) (la := la) (by omega) 6 0 M (by omega) (by omega) (fun _ _ => rfl) (fun k a b => by omega)
  obtain ⟨M2, b1, b2, b3⟩ := S123b (M := M1) (X := X) (la := la) (by omega) (la + 5 - 179).toNat (la + 5) M1 (by omega) (by omega) (fun _ _ => rfl) (fun z hz => by rw [if_neg (by omega)])
  obtain ⟨M3, c1, c2, c3⟩ := S123c (M := M2) (X := X) (la := la) (cr := fun k => rr M (la + k)) (fun k a b => by rw [b2 825 (by decide)]; exact a3 k a b) 6 0 M2 (by omega) (by omega) (fun _ _ => rfl) (fun z hz => by rw [if_neg (by omega)])
  have hm1 : ∀ z, rr M1 z = rr M z := fun z => rr_at (a2 820 (by decide))
  have hm3 : ∀ z, 0 ≤ z → rr M3 z = if 174 ≤ z ∧ z < 180 then rr M (la + (z - 174)) else if 179 < z ∧ z ≤ la + 5 then rr M (z - 6) else rr M z := fun z hz => by
    rw [c3 z hz]
    by_cases hc : 174 ≤ z ∧ z < 180
    · rw [if_pos hc, if_pos hc]
    · rw [if_neg hc, if_neg hc, b3 z hz, hm1, hm1]
  have f3 : ∀ b, b ≠ 820 → b ≠ 825 → M3 b = M b := fun b x y => (c2 b x).trans ((b2 b x).trans (a2 b y))
  obtain ⟨p0, p1, p2, p3, p5⟩ := hr.2.2.2.2.2.1 (A 0 0 - 1) (by omega) (by omega)
  obtain ⟨y3, y4, -⟩ := hi.2.2.2.2.2.2 (A 0 0 - 1) (by omega) (by omega)
  have w174 : rr M3 174 = ii (A 20 (A 0 0 - 1)) := by rw [hm3 174 (by omega), if_pos (by omega), show la + (174 - 174) = 174 + 6 * (A 0 0 - 1) + 0 by omega, p0]
  have w176 : rr M3 176 = ii (A 22 (A 0 0 - 1)) := by rw [hm3 176 (by omega), if_pos (by omega), show la + (176 - 174) = 174 + 6 * (A 0 0 - 1) + 2 by omega, p2]
  -- the row behind it
  obtain ⟨M4, hM4⟩ : ∃ M4, M4 = (if A 20 (A 0 0 - 1) = -1 then M3 else sr M3 176 (ii (A 22 (A 0 0 - 1) + 1))) := ⟨_, rfl⟩
  have f4 : ∀ b, b ≠ 820 → b ≠ 825 → M4 b = M b := fun b x y => by
    rw [hM4]
    split
    · exact f3 b x y
    · rw [sr_n x]; exact f3 b x y
  have hm4 : ∀ z, 0 ≤ z → z ≠ 176 → rr M4 z = rr M3 z := fun z hz hn => by
    rw [hM4]
    split
    · rfl
    · rw [rr_sr (by omega) hz, if_neg hn]
  have hm5 : rr M4 176 = ii (if A 20 (A 0 0 - 1) = -1 then A 22 (A 0 0 - 1) else A 22 (A 0 0 - 1) + 1) := by
    rw [hM4]
    by_cases hw : A 20 (A 0 0 - 1) = -1
    · rw [if_pos hw, if_pos hw, w176]
    · rw [if_neg hw, if_neg hw, rr_sr (by omega) (by omega), if_pos rfl]
  have low : ∀ z, 0 ≤ z → (z < 174 ∨ 174 + 6 * A 0 0 ≤ z) → rr M4 z = rr M z := fun z hz hc => by rw [hm4 z hz (by omega), hm3 z hz, if_neg (by omega), if_neg (by omega)]
  refine ⟨M4, ?_, ⟨?_, adv_INV hi, hT, adv_HLD hh hi⟩, fun b x y z => f4 b y z, fun k _ _ => by rw [f4 819 (by decide) (by decide)], fun z hz hc => low z hz (by omega)⟩
  · rw [q123_0, S23, kb1, q123_9, t0, i_174, i_6, i_1, i_0, ii_sub, ii_mul, ii_add, ← hla, a1, b1]
    have c1 : ev true 123 0 79 [pR 13 819, pI (ii la), pI (ii 0)] [] M2 X = _ := c1
    rw [c1, w174, ii_m1, ieq (by omega), w176, ii_add, hM4]
    split <;> rw [q123_131]
  · obtain ⟨r0, rx, rw9, rs, rc, rp, rb, rq, rl9⟩ := hr
    have k0 : ∀ f, (f < 20 ∨ 25 < f) → advA (A 0 0) A f = A f := fun f hf => advA_f hf
    unfold RR R0 RX RWa RSi RCo RPl RPb RQu RLg
    simp (disch := omega) only [k0]
    have hsz : ∀ e, 0 ≤ e → e < 6 → 0 ≤ A 44 e ∧ A 44 e ≤ 20 := fun e a b => by
      rcases Int.lt_or_le e (A 0 3) with h | h
      · obtain ⟨-, -, -, -, -, -, -, -, q9, q10, -⟩ := hi.2.2.2.1 e a h
        exact ⟨q9, q10⟩
      · rw [hi.2.2.2.2.1 e h b]; omega
    refine ⟨fun k a b => ?_, fun e a b => ?_, fun e a b => ?_, fun e a b => ?_, fun e a b => ?_, fun q a b => ?_, fun q k a0 a b c d => ?_, fun e k a b c d => ?_, fun e k a b c d => ?_⟩
    · rw [low k a (by omega)]; exact r0 k a b
    · simp (disch := omega) only [low]; exact rx e a b
    · simp (disch := omega) only [low]; exact rw9 e a b
    · simp (disch := omega) only [low]; exact rs e a b
    · simp (disch := omega) only [low]; exact rc e a b
    · have hp : 0 ≤ prv (A 0 0) q ∧ prv (A 0 0) q < A 0 0 := by unfold prv; split <;> omega
      obtain ⟨d0, d1, d2, d3, d5⟩ := rp (prv (A 0 0) q) hp.1 hp.2
      have e : ∀ k, 0 ≤ k → k < 6 → (k = 2 → q ≠ 0) → rr M4 (174 + 6 * q + k) = rr M (174 + 6 * prv (A 0 0) q + k) := fun k k1 k2 k3 => by
        rw [hm4 _ (by omega) (by omega), hm3 _ (by omega)]
        unfold prv
        by_cases hq : q = 0
        · rw [if_pos (by omega), if_pos hq]; congr 1; omega
        · rw [if_neg (by omega), if_pos (by omega), if_neg hq]; congr 1; omega
      rw [advA_q (f := 20) (by omega) a b, advA_q (f := 21) (by omega) a b, advA_q (f := 23) (by omega) a b, advA_q (f := 24) (by omega) a b, advA_q (f := 25) (by omega) a b, e 0 (by omega) (by omega) (by omega), e 1 (by omega) (by omega) (by omega), e 3 (by omega) (by omega) (by omega), e 4 (by omega) (by omega) (by omega), e 5 (by omega) (by omega) (by omega)]
      refine ⟨d0, d1, ?_, d3, d5⟩
      unfold advA
      rw [if_pos ⟨by omega, by omega, a, b⟩]
      by_cases hq : q = 0
      · subst hq
        have e2 : prv (A 0 0) 0 = A 0 0 - 1 := by unfold prv; rw [if_pos rfl]
        rw [show 174 + 6 * (0 : Int) + 2 = 176 by omega, hm5, e2]
        by_cases hw : A 20 (A 0 0 - 1) = -1
        · rw [if_pos hw, if_neg (fun z => z.2.2 hw)]
        · rw [if_neg hw, if_pos ⟨rfl, rfl, hw⟩]
      · rw [if_neg (fun z => hq z.2.1), e 2 (by omega) (by omega) (fun _ => hq), d2]
    · rw [low _ (by omega) (by omega)]; exact rb q k a0 a b c d
    · have hz := hsz e a b
      rw [low _ (by omega) (by omega), low _ (by omega) (by omega)]; exact rq e k a b c d
    · rw [low _ (by omega) (by omega)]; exact rl9 e k a b c d
end RTU
