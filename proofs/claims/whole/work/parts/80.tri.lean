/-! trials, what comes again, rates: both sides -/
section TRI
set_option maxRecDepth 100000
variable {u p v l g : Nat} {j q e w c T T' tu tv nx off sh i z y N t x a b d : Int} {A B C I I' A' B' : AT} {M M' M0 M1 M2 : Mem} {X : PX} {L : Bool} {n s m : Nat} {Q Q' : Nat → AT} {k : Bool} {D : Nat → Int} {f : Int}
theorem CW.trial (h : CW M A n Q k I s D f) (hf : FrG M M') : CW M' A n Q k I s D f := h.mv ⟨PLv_k h.1.1 (fun b c1 c2 c3 c4 => hf b (by omega) c3 c4) SP.rf, STv_k h.1.2.1 (fun b c1 c2 => hf b (by omega) (by omega) (by omega)) rfl, by rw [hf 83 (by omega) (by omega) (by omega)]; exact h.1.2.2⟩ (fun b c1 c2 c3 c4 => hf b (by omega) c3 c4)
theorem FrG.hi (h : FrG M M') : ∀ b, 819 ≤ b → M' b = M b := fun b hb => h b (by omega) (by omega) (by omega)
/-- the reference lays its row aside, runs, and takes it back -/
def FrT9 (M M' : Mem) : Prop := (∀ b, b ≠ 819 → b ≠ 820 → b ≠ 822 → b ≠ 825 → M' b = M b) ∧ (∀ j, j ≠ 8 → j ≠ 10 → j ≠ 11 → M' 819 j = M 819 j) ∧ ∀ z, 0 ≤ z → (z = 10 ∨ 934 ≤ z) → rr M' z = rr M z
theorem asd (h : FrT9 M M') (ha : ∀ j, M' 822 j = if j < 1434 then M 820 j else M 822 j) : ∃ M2, ev true 38 0 0 [pR 14 820, pR 14 822, p0] [] M' X = some (.inl none, M2, X) ∧ M2 820 = M 820 ∧ (∀ b, b ≠ 819 → b ≠ 822 → b ≠ 825 → M2 b = M b) ∧ ∀ j, M2 819 j = M' 819 j := by
  obtain ⟨M2, d1, d2, d3⟩ := S38 (M := M') (X := X) ln820 ln822 (show (820 : Nat) ≠ 822 by decide)
  have e20 : M2 820 = M 820 := by
    funext j
    rw [d3 j]
    by_cases hj : j < 1434
    · rw [if_pos hj, ha j, if_pos hj]
    · rw [if_neg hj]
      exact h.2.2 j (by omega) (by omega)
  refine ⟨M2, d1, e20, fun b c1 c2 c3 => ?_, fun j => by rw [d2 819 (by decide)]⟩
  by_cases hb : b = 820
  · rw [hb, e20]
  · rw [d2 b hb, h.1 b c1 hb c2 c3]
theorem RWx.asd (h : RWx M A n Q k I s D f) (hz : ZW T A n Q k I s D f) (h20 : M' 820 = M 820) (hf : ∀ b, b ≠ 819 → b ≠ 822 → b ≠ 825 → M' b = M b) (h5 : M' 819 5 = M 819 5) (h6 : M' 819 6 = M 819 6) (h8 : M' 819 8 = M 819 8) (h17 : M' 819 17 = M 819 17) (h25 : M' 819 25 = M 819 25) : RWx M' A n Q k I s D f := h.mv hz (h.1.mv hz.1.1 (fun z _ _ => rr_at h20) h8) ⟨hf _ (by decide) (by decide) (by decide), hf _ (by decide) (by decide) (by decide), hf _ (by decide) (by decide) (by decide), h5, h6, h17, h25, fun z _ _ _ => rr_at h20⟩
/-- the aside copy -/
theorem asd0 : ∃ M1, ev true 38 0 0 [pR 14 822, pR 14 820, p0] [] M X = some (.inl none, M1, X) ∧ (∀ b, b ≠ 822 → M1 b = M b) ∧ ∀ j, M1 822 j = if j < 1434 then M 820 j else M 822 j := by
  obtain ⟨M1, a1, a2, a3⟩ := S38 (M := M) (X := X) ln822 ln820 (show (822 : Nat) ≠ 820 by decide)
  exact ⟨M1, a1, a2, a3⟩
/-- what a trial says -/
def triA (A R : AT) (b : Int) : Int := if b = 0 then R 0 6 - A 0 6 else if b = 1 then R 0 7 - A 0 7 else if b = 2 then itmA R else if b = 3 then s6 (R 44) else lojA R (R 0 1).toNat
theorem P_trial_1 (hz : ZW T A n Q k I s D f) (hb : B32 b) (hc : ¬ (0 ≤ b ∧ b < 5)) : cT (fun M => CW M A n Q k I s D f) 258 [pR 1 0, pI (ii a), pI (ii b)] 1 ∧ rA (fun M => RWx M A n Q k I s D f) (fun M => RWx M A n Q k I s D f) 301 [pR 13 819, pI (ii a), pI (ii b), p0] (ii 0) 1 := by
  refine ⟨fun M X h hX => ?_, fun M X h => ⟨upM M 819 7 (ii 1), ?_, h.u7 hz, fr7, st7⟩⟩
  · rw [q258_0, i_5, S1 hb (by omega), kt1, q258_5, i_0, bIT, decide_eq_false hc, cond_false, thT hX (by decide) (by decide)]
  · rw [q301_0, i_0, i_4, S28 hb (b32 (by omega)) (b32 (by omega)), kb1, q301_7, i_0, bIT, decide_eq_false (by omega), cond_false, q301_30, i_1, st7, i_0, ltT (by omega)]
theorem P_trial_2 (hz : ZW T A n Q k I s D f) (ha : B32 a) (hb : 0 ≤ b ∧ b < 5) (hc : ¬ (0 ≤ a ∧ a ≤ 500)) : cT (fun M => CW M A n Q k I s D f) 258 [pR 1 0, pI (ii a), pI (ii b)] 2 ∧ rA (fun M => RWx M A n Q k I s D f) (fun M => RWx M A n Q k I s D f) 301 [pR 13 819, pI (ii a), pI (ii b), p0] (ii 0) 2 := by
  refine ⟨fun M X h hX => ?_, fun M X h => ⟨upM M 819 7 (ii 2), ?_, h.u7 hz, fr7, st7⟩⟩
  · obtain ⟨a1, a2⟩ := ha
    rw [q258_0, i_5, S1 (b32 (by omega)) (by omega), kt1, q258_5, i_0, bIT, decide_eq_true hb, cond_true, ilt (by omega), i_500, ilt (by omega)]
    by_cases c1 : a < 0
    · rw [if_pos c1, q258_27, thT hX (by decide) (by decide)]
    · rw [if_neg c1, if_pos (by omega), q258_27, thT hX (by decide) (by decide)]
  · rw [q301_0, i_0, i_4, S28 (b32 (by omega)) (b32 (by omega)) (b32 (by omega)), kb1, q301_7, i_0, bIT, decide_eq_true (by omega), cond_true, i_500, S28 ha (b32 (by omega)) (b32 (by omega)), kb1, q301_22, i_0, bIT, decide_eq_false hc, cond_false, q301_30, i_2, st7, i_0, ltT (by omega)]
theorem P_trial_y (hz : ZW T A n Q k I s D f) (hT : T + 500 < 1000000) (hb : 0 ≤ b ∧ b < 5) (hc : 0 ≤ a ∧ a ≤ 500) : cA (fun M => CW M A n Q k I s D f) (fun M => CW M A n Q k I s D f) 258 [pR 1 0, pI (ii a), pI (ii b)] (ii (triA A (runA (-1) a.toNat A) b)) ∧ rA (fun M => RWx M A n Q k I s D f) (fun M => RWx M A n Q k I s D f) 301 [pR 13 819, pI (ii a), pI (ii b), p0] (ii (triA A (runA (-1) a.toNat A) b)) 0 := by
  have hp := hz.1.run (off := -1) a.toNat
  have hi := hz.1.1
  have g := hi.1
  have g' := hp.1.1
  refine ⟨fun M X h => ?_, fun M X h => ?_⟩
  · obtain ⟨M1, a1, a2, a3, a4⟩ := S209w (X := X) (WTof h hz (by omega)) stl685 (by omega) (by omega)
    obtain ⟨M2, b1, b2, b3⟩ := S251 (X := X) (n := a.toNat) a2 (by omega) (by omega) (by rw [a3]; exact h.1.2.2) (by omega)
    rw [show ((a.toNat : Nat) : Int) = a by omega] at b1
    have fr : FrG M M2 := FrG.tr (M2 := M1) (fun y c1 _ _ => a4 y (by omega)) (FrG.s7 b3)
    refine ⟨M2, ?_, h.trial fr, fr.hi⟩
    have hs := b2.1.2.2.1
    have s12 : ∀ j, 0 ≤ j → j < 6 → cl M2 720 j = ii (runA (-1) a.toNat A 48 j) := by obtain ⟨-, -, -, -, -, -, -, -, -, -, -, h, -⟩ := hs; exact h
    have s16 : ∀ j, 0 ≤ j → j < 6 → cl M2 728 j = ii (runA (-1) a.toNat A 34 j) := by obtain ⟨-, -, -, -, -, -, -, -, -, -, -, -, -, -, -, h, -⟩ := hs; exact h
    have z12 : ∀ j, 0 ≤ j → j < 6 → cl M2 118 j = ii (A 48 j) := by obtain ⟨-, -, -, -, -, -, -, -, -, -, -, h, -⟩ := (h.trial fr).1.2.1; exact h
    have z16 : ∀ j, 0 ≤ j → j < 6 → cl M2 126 j = ii (A 34 j) := by obtain ⟨-, -, -, -, -, -, -, -, -, -, -, -, -, -, -, h, -⟩ := (h.trial fr).1.2.1; exact h
    have m43 : rl 728 = 6 := by obtain ⟨-, -, -, -, -, -, -, -, -, -, -, -, -, -, -, l43, -⟩ := stl685; exact l43
    have m35 : rl 720 = 6 := by obtain ⟨-, -, -, -, -, -, -, -, -, -, -, l35, -⟩ := stl685; exact l35
    have m19 : rl 704 = 6 := stl685.2.2.2.1
    have l43 : rl 126 = 6 := by obtain ⟨-, -, -, -, -, -, -, -, -, -, -, -, -, -, -, l43, -⟩ := stl83; exact l43
    have l35 : rl 118 = 6 := by obtain ⟨-, -, -, -, -, -, -, -, -, -, -, l35, -⟩ := stl83; exact l35
    have pre : ev true 258 0 0 [pR 1 0, pI (ii a), pI (ii b)] [] M X = ev true 258 0 58 [pR 1 0, pI (ii a), pI (ii b)] [] M2 X := by
      rw [q258_0, i_5, S1 (b32 (by omega)) (by omega), kt1, q258_5, i_0, bIT, decide_eq_true hb, cond_true, ltF (by omega), i_500, ltF (by omega), a1, kt0, q258_46, b1, kt0]
    rw [pre]
    unfold triA
    rcases (by omega : b = 0 ∨ b = 1 ∨ b = 2 ∨ b = 3 ∨ b = 4) with rfl | rfl | rfl | rfl | rfl
    · rw [if_pos rfl, q258_58, i_0, eqT rfl, sum6 s16 m43, kt1, q258_98, sum6 z16 l43, kt1, q258_108, ii_sub, ← hp.2.2.2.1.1, ← hz.1.2.2.2.1.1]
    · rw [if_neg (by omega), if_pos rfl, q258_58, i_0, eqF (by omega), i_1, eqT rfl, sum6 s12 m35, kt1, q258_120, sum6 z12 l35, kt1, q258_130, ii_sub, ← hp.2.2.2.1.2.2, ← hz.1.2.2.2.1.2.2]
    · rw [if_neg (by omega), if_neg (by omega), if_pos rfl, q258_58, i_0, eqF (by omega), i_1, eqF (by omega), i_2, eqT rfl, show ev true 76 0 0 [pR 9 686, p0, p0] [] M2 X = _ from S76 hs stl685 hp.1, kt1, q258_142]
    · rw [if_neg (by omega), if_neg (by omega), if_neg (by omega), if_pos rfl, q258_58, i_0, eqF (by omega), i_1, eqF (by omega), i_2, eqF (by omega), i_3, eqT rfl, sum6 (t := 704) (fun j x y => (hs.2.2.1 j x y).2.2.1) m19, kt1, q258_156]
    · rw [if_neg (by omega), if_neg (by omega), if_neg (by omega), if_neg (by omega), q258_58, i_0, eqF (by omega), i_1, eqF (by omega), i_2, eqF (by omega), i_3, eqF (by omega), S234 b2.1, kt1, q258_168]
  · have h7 := h.u7 (v := ii 0) hz
    obtain ⟨M1, a1, a2, a3⟩ := asd0 (M := upM M 819 7 (ii 0)) (X := X)
    have e1 : M1 820 = upM M 819 7 (ii 0) 820 := a2 820 (by decide)
    obtain ⟨M2, b1, b2, b3, b4⟩ := S296 (X := X) (n := a.toNat) (WR_k (WRof h7 hz (by omega)) e1) (h7.1.2.1.cp (fun z _ _ _ => rr_at e1) SP.rf) (by omega) (by omega) (by rw [a2 819 (by decide)]; exact h7.1.2.2.2) (by omega)
    rw [show ((a.toNat : Nat) : Int) = a by omega] at b1
    have f9 : FrT9 (upM M 819 7 (ii 0)) M2 := ⟨fun y c1 c2 c3 c4 => by rw [b4.1 y c1 c2 c4, a2 y c3], fun j c1 c2 c3 => by rw [b4.2.1 j c2 c3, a2 819 (by decide)], fun z c1 c2 => by rw [b4.2.2 z c1 c2, rr_at e1]⟩
    have h22 : ∀ j, M2 822 j = if j < 1434 then upM M 819 7 (ii 0) 820 j else upM M 819 7 (ii 0) 822 j := fun j => by rw [b4.1 822 (by decide) (by decide) (by decide)]; exact a3 j
    obtain ⟨M3, c1, c2, c3, c4⟩ := asd (X := X) f9 h22
    have ef : ∀ j, j ≠ 10 → j ≠ 11 → M3 819 j = upM M 819 7 (ii 0) 819 j := fun j j1 j2 => by rw [c4, b4.2.1 j j1 j2, a2 819 (by decide)]
    have key : ∀ v : Int, (∀ z1 z3, ev true 301 0 58 [pR 13 819, z1, pI (ii b), z3] [] M2 X = ev true 301 0 133 [pR 13 819, z1, pI (ii b), z3] [pI (ii v)] M2 X) → ∃ M', ev true 301 0 0 [pR 13 819, pI (ii a), pI (ii b), p0] [] M X = some (.inl (some (pI (ii v))), M', X) ∧ RWx M' A n Q k I s D f ∧ (∀ b, b < 819 → M' b = M b) ∧ M' 819 7 = ii 0 := fun v hv => by
      refine ⟨M3, ?_, h7.asd hz c2 c3 (ef _ (by decide) (by decide)) (ef _ (by decide) (by decide)) (ef _ (by decide) (by decide)) (ef _ (by decide) (by decide)) (ef _ (by decide) (by decide)), fun y hy => by rw [c3 y (by omega) (by omega) (by omega), fr7 y hy], by rw [ef 7 (by decide) (by decide), st7]⟩
      rw [q301_0, i_0, i_4, S28 (b32 (by omega)) (b32 (by omega)) (b32 (by omega)), kb1, q301_7, i_0, bIT, decide_eq_true (by omega), cond_true, i_500, S28 (b32 (by omega)) (b32 (by omega)) (b32 (by omega)), kb1, q301_22, i_0, bIT, decide_eq_true hc, cond_true, q301_30, st7, i_0, ltF (by omega), a1, kb0, q301_53, b1, kb0, hv, q301_133, c1, kb0, q301_145]
    refine key _ fun z1 z3 => ?_
    have t6 : M2 820 6 = ii (runA (-1) a.toNat A 0 6) := b2.1.1 6 (by omega) (by omega)
    have t7 : M2 820 7 = ii (runA (-1) a.toNat A 0 7) := b2.1.1 7 (by omega) (by omega)
    have u6 : M2 822 6 = ii (A 0 6) := by rw [h22, if_pos (by decide)]; exact h7.1.1.1 6 (by omega) (by omega)
    have u7 : M2 822 7 = ii (A 0 7) := by rw [h22, if_pos (by decide)]; exact h7.1.1.1 7 (by omega) (by omega)
    unfold triA
    rcases (by omega : b = 0 ∨ b = 1 ∨ b = 2 ∨ b = 3 ∨ b = 4) with rfl | rfl | rfl | rfl | rfl
    · rw [if_pos rfl, q301_58, i_0, eqT rfl, i_6, inR (by omega), inbT (by rw [ln822]; omega), t6, u6, ii_sub]
    · rw [if_neg (by omega), if_pos rfl, q301_58, i_0, eqF (by omega), i_1, eqT rfl, i_7, inR (by omega), inbT (by rw [ln822]; omega), t7, u7, ii_sub]
    · rw [if_neg (by omega), if_neg (by omega), if_pos rfl, q301_58, i_0, eqF (by omega), ii_m1, i_1, eqF (by omega), i_2, eqT rfl, S107 b2 (by omega), kb1, q301_113, if_pos rfl]
    · rw [if_neg (by omega), if_neg (by omega), if_neg (by omega), if_pos rfl, q301_58, i_0, eqF (by omega), ii_m1, i_1, eqF (by omega), i_2, eqF (by omega), i_3, eqT rfl, S109 b2 (by omega), kb1, q301_126, wr_s6 hp.1]
    · rw [if_neg (by omega), if_neg (by omega), if_neg (by omega), if_neg (by omega), q301_58, i_0, eqF (by omega), ii_m1, i_1, eqF (by omega), i_2, eqF (by omega), i_3, eqF (by omega), S188 b2, kb1]
theorem P_again_n (hz : ZW T A n Q k I s D f) (ha : B32 a) (hc : ¬ (0 ≤ a ∧ a < 2)) : cT (fun M => CW M A n Q k I s D f) 259 [pR 1 0, pI (ii a), p0] 1 ∧ rA (fun M => RWx M A n Q k I s D f) (fun M => RWx M A n Q k I s D f) 302 [pR 13 819, pI (ii a)] (ii 0) 1 := by
  refine ⟨fun M X h hX => ?_, fun M X h => ⟨upM (upM M 819 7 (ii 0)) 819 7 (ii 1), ?_, (h.u7 hz).u7 hz, fun y hy => by rw [fr7 y hy, fr7 y hy], st7⟩⟩
  · rw [q259_0, i_2, S1 ha (by omega), kt1, q259_5, i_0, bIT, decide_eq_false hc, cond_false, thT hX (by decide) (by decide)]
  · rw [q302_0, i_0, i_1, S28 ha (b32 (by omega)) (b32 (by omega)), kb1, q302_11, i_0, bIT, decide_eq_false (by omega), cond_false, i_1, S27, kb1, q302_19]
/-- the reference's again, in the world -/
theorem R_again (h : RWx M A n Q k I s D f) (hz : ZW T A n Q k I s D f) (hT : T + 500 < 1000000) : ∃ M' t d, ev true 297 0 0 [pR 13 819, p0, p0, p0] [] M X = some (.inl none, M', X) ∧ AGr A t d ∧ M' 819 14 = ii t ∧ M' 819 15 = ii d ∧ RWx M' A n Q k I s D f ∧ (∀ b, b < 819 → M' b = M b) ∧ M' 819 7 = M 819 7 := by
  obtain ⟨M', t, d, a1, a2, a3, a4, a5⟩ := S297 (X := X) (WRof h hz (by omega)) h.1.2.1 h.1.2.2.1 hT h.1.2.2.2
  have e20 : M' 820 = M 820 := a5.1 820 (by decide) (by decide) (by decide) (by decide)
  exact ⟨M', t, d, a1, a2, a3, a4, h.mv hz (h.1.mv hz.1.1 (fun z _ _ => rr_at e20) (a5.2 8 (by decide) (by decide) (by decide) (by decide) (by decide))) (FrN.a a5), fun b hb => a5.1 b (by omega) (by omega) (by omega) (by omega), a5.2 7 (by decide) (by decide) (by decide) (by decide) (by decide)⟩
/-- what again finds, as numbers -/
theorem agr_in {t d : Int} (h : AGr A t d) : (t = -1 ∧ d = -1) ∨ (0 ≤ t ∧ 1 ≤ d ∧ t + d ≤ 500) := by
  rcases h with ⟨h1, h2, -⟩ | ⟨a, b, h1, h2, h3, h4, -⟩
  · exact Or.inl ⟨h1, h2⟩
  · exact Or.inr ⟨by omega, by omega, by omega⟩
theorem agr_ex (hi : INV A T) (hh : HLD A) : ∃ t d, AGr A t d := by
  rcases Classical.em (∀ a b : Nat, 1 ≤ b → a + b ≤ 500 → ¬ alk A a b) with h | h
  · exact ⟨-1, -1, Or.inl ⟨rfl, rfl, h⟩⟩
  · -- the least of all
    have key : ∀ m : Nat, (∃ a b : Nat, 1 ≤ b ∧ a + b ≤ 500 ∧ a * 501 + b < m ∧ alk A a b) → ∃ a b : Nat, 1 ≤ b ∧ a + b ≤ 500 ∧ alk A a b ∧ ∀ a' b' : Nat, 1 ≤ b' → a' + b' ≤ 500 → (a' < a ∨ a' = a ∧ b' < b) → ¬ alk A a' b' := by
      intro m
      induction m with
      | zero => rintro ⟨a, b, -, -, h, -⟩; omega
      | succ m ih =>
        rintro ⟨a, b, h1, h2, h3, h4⟩
        rcases Classical.em (∃ a' b' : Nat, 1 ≤ b' ∧ a' + b' ≤ 500 ∧ a' * 501 + b' < m ∧ alk A a' b') with c | c
        · exact ih c
        · refine ⟨a, b, h1, h2, h4, fun a' b' k1 k2 k3 k4 => c ⟨a', b', k1, k2, ?_, k4⟩⟩
          rcases k3 with k3 | ⟨rfl, k3⟩
          · have : a' * 501 + 501 ≤ a * 501 := by omega
            omega
          · omega
    obtain ⟨a, b, h1, h2, h3⟩ : ∃ a b : Nat, 1 ≤ b ∧ a + b ≤ 500 ∧ alk A a b := by
      rcases Classical.em (∃ a b : Nat, 1 ≤ b ∧ a + b ≤ 500 ∧ alk A a b) with c | c
      · exact c
      · exact absurd (fun a b h1 h2 h3 => c ⟨a, b, h1, h2, h3⟩) h
    obtain ⟨a, b, k1, k2, k3, k4⟩ := key (a * 501 + b + 1) ⟨a, b, h1, h2, by omega, h3⟩
    exact ⟨a, b, Or.inr ⟨a, b, rfl, rfl, k1, k2, k3, k4⟩⟩
theorem P_again_y (hz : ZW T A n Q k I s D f) (hT : T + 1000 < 1000000) (hc : 0 ≤ a ∧ a < 2) : ∃ v : Int32, cA (fun M => CW M A n Q k I s D f) (fun M => CW M A n Q k I s D f) 259 [pR 1 0, pI (ii a), p0] v ∧ rA (fun M => RWx M A n Q k I s D f) (fun M => RWx M A n Q k I s D f) 302 [pR 13 819, pI (ii a)] v 0 := by
  obtain ⟨t, d, had⟩ := agr_ex hz.1.1 hz.1.2.1
  have hin := agr_in had
  refine ⟨ii (if a = 0 then t else d), fun M X h => ?_, fun M X h => ?_⟩
  · obtain ⟨M', t', d', a1, a2, a3, a4⟩ := S247 (X := X) (WTof h hz (by omega)) h.1.2.2 hT
    obtain ⟨rfl, rfl⟩ := AGr_one A a2 had
    have hw := h.trial a4
    refine ⟨M', ?_, hw, a4.hi⟩
    rw [q259_0, i_2, S1 (b32 (by omega)) (by omega), kt1, q259_5, i_0, bIT, decide_eq_true hc, cond_true, a1, kt1, q259_20, ii_m1]
    rcases hin with ⟨h1, h2⟩ | ⟨h1, h2, h3⟩
    · rw [eqT h2, q259_31]
      rcases (by omega : a = 0 ∨ a = 1) with rfl | rfl
      · rw [if_pos rfl, h1, h2]
      · rw [if_neg (by omega)]
    · obtain ⟨a', b', k1, k2, k3, k4⟩ := a3 (by omega)
      rw [eqF (by omega), i_1]
      rcases (by omega : a = 0 ∨ a = 1) with rfl | rfl
      · have s1 : M' 635 0 = ii (runA (-1) a' A 0 5) := k4.1.1.2.2.1.1
        have s2 : M' 83 0 = ii (A 0 5) := hw.1.2.1.1
        rw [eqF (by omega), if_pos rfl, s1, s2, ii_sub, run_05, k1, show A 0 5 + (a' : Int) - A 0 5 = a' by omega]
      · rw [eqT rfl, q259_31, if_neg (by omega)]
  · have h7 := h.u7 (v := ii 0) hz
    obtain ⟨M', t', d', a1, a2, a3, a4, a5, a6, a7⟩ := R_again (X := X) h7 hz (by omega)
    obtain ⟨rfl, rfl⟩ := AGr_one A a2 had
    refine ⟨M', ?_, a5, fun y hy => by rw [a6 y hy, fr7 y hy], by rw [a7, st7]⟩
    rw [q302_0, i_0, i_1, S28 (b32 (by omega)) (b32 (by omega)) (b32 (by omega)), kb1, q302_11, i_0, bIT, decide_eq_true (by omega), cond_true, a1, kb0, q302_24, a3, a4, i_0]
    rcases (by omega : a = 0 ∨ a = 1) with rfl | rfl
    · rw [eqT rfl, if_pos rfl, q302_39]
    · rw [eqF (by omega), if_neg (by omega), q302_39]
end TRI
