/-! rates, the least room: both sides -/
section RAT
set_option maxRecDepth 100000
variable {u p v l g : Nat} {j q e w c T T' tu tv nx off sh i z y N t x a b d o : Int} {A B C I I' A' B' R : AT} {M M' M0 M1 M2 : Mem} {X : PX} {L : Bool} {n s m : Nat} {Q Q' : Nat → AT} {k : Bool} {D : Nat → Int} {f : Int}
def ratA (R : AT) (a b : Int) : Int := if b = -1 then (if a = 2 then R 0 7 else R 0 6) else if a = 0 then R 34 b else if a = 1 then R 47 b else R 48 b
theorem S56 (hs : STv M s R) (hl : StL s) (hm : SMI R) (ha : 0 ≤ a ∧ a < 3) (hb : b = -1 ∨ (0 ≤ b ∧ b < 6)) : ev true 56 0 0 [pR 6 s, pI (ii a), pI (ii b), p0] [] M X = some (.inl (some (pI (ii (ratA R a b)))), M, X) := by
  have s11 : ∀ j, 0 ≤ j → j < 6 → cl M (s + 33) j = ii (R 47 j) := by obtain ⟨-, -, -, -, -, -, -, -, -, -, h, -⟩ := hs; exact h
  have s12 : ∀ j, 0 ≤ j → j < 6 → cl M (s + 35) j = ii (R 48 j) := by obtain ⟨-, -, -, -, -, -, -, -, -, -, -, h, -⟩ := hs; exact h
  have s16 : ∀ j, 0 ≤ j → j < 6 → cl M (s + 43) j = ii (R 34 j) := by obtain ⟨-, -, -, -, -, -, -, -, -, -, -, -, -, -, -, h, -⟩ := hs; exact h
  have l10 : rl (s + 33) = 6 := by obtain ⟨-, -, -, -, -, -, -, -, -, -, l, -⟩ := hl; exact l
  have l11 : rl (s + 35) = 6 := by obtain ⟨-, -, -, -, -, -, -, -, -, -, -, l, -⟩ := hl; exact l
  have l15 : rl (s + 43) = 6 := by obtain ⟨-, -, -, -, -, -, -, -, -, -, -, -, -, -, -, l, -⟩ := hl; exact l
  have fin : ∀ (t : Nat) (F : Int → Int) (v : Int), (∀ j, 0 ≤ j → j < 6 → cl M t j = ii (F j)) → rl t = 6 → v = (if b = -1 then s6 F else F b) → ev true 56 0 27 [pR 6 s, pI (ii a), pI (ii b), p0] [pR 8 t] M X = some (.inl (some (pI (ii v))), M, X) := fun t F v h1 h2 h3 => by
    rw [q56_27, ii_m1, h3]
    rcases hb with hb | hb
    · rw [eqT hb, if_pos hb, sum6 h1 h2, kb1, q56_37, q56_45]
    · rw [eqF (by omega), if_neg (by omega), S12 hb.1 (by omega), kb1, h1 b hb.1 hb.2, q56_45]
  unfold ratA
  rw [q56_0]
  rcases (by omega : a = 0 ∨ a = 1 ∨ a = 2) with rfl | rfl | rfl
  · rw [i_0, eqT rfl]
    refine fin _ _ _ s16 l15 ?_
    rw [if_neg (show ¬ (0 : Int) = 2 by omega), if_pos (show (0 : Int) = 0 from rfl), hm.1]
  · rw [i_0, eqF (by omega), i_1, eqT rfl]
    refine fin _ _ _ s11 l10 ?_
    rw [if_neg (show ¬ (1 : Int) = 2 by omega), if_neg (show ¬ (1 : Int) = 0 by omega), if_pos (show (1 : Int) = 1 from rfl), hm.2.1]
  · rw [i_0, eqF (by omega), i_1, eqF (by omega)]
    refine fin _ _ _ s12 l11 ?_
    rw [if_pos (show (2 : Int) = 2 from rfl), if_neg (show ¬ (2 : Int) = 0 by omega), if_neg (show ¬ (2 : Int) = 1 by omega), hm.2.2]
theorem S129 (hr : RR M R) (ha : 0 ≤ a ∧ a < 3) (hb : b = -1 ∨ (0 ≤ b ∧ b < 6)) : ev true 129 0 0 [pR 13 819, pI (ii a), pI (ii b)] [] M X = some (.inl (some (pI (ii (ratA R a b)))), M, X) := by
  have t6 : M 820 6 = ii (R 0 6) := hr.1 6 (by omega) (by omega)
  have t7 : M 820 7 = ii (R 0 7) := hr.1 7 (by omega) (by omega)
  unfold ratA
  rw [q129_0, ii_m1]
  rcases hb with hb | hb
  · rw [eqT hb, if_pos hb, i_2, ieq (by omega), i_7, inR (by omega), i_6, inR (by omega), t6, t7]
    split <;> rw [q129_27]
  · obtain ⟨x0, x1, x2, x3, x4⟩ := hr.2.1 b hb.1 hb.2
    obtain ⟨v0, v1, v2, v3, v4, v5, v6, v7, v8, v9⟩ := hr.2.2.2.1 b hb.1 hb.2
    rw [eqF (by omega), if_neg (show ¬ b = -1 by omega)]
    rcases (by omega : a = 0 ∨ a = 1 ∨ a = 2) with rfl | rfl | rfl
    · rw [i_0, eqT rfl, i_4, S29 (by omega), kb1, x4, q129_38, q129_63, if_pos rfl]
    · rw [i_0, eqF (by omega), i_1, eqT rfl, i_7, S25 (by omega), kb1, v7, q129_53, q129_63, if_neg (show ¬ (1 : Int) = 0 by omega), if_pos (show (1 : Int) = 1 from rfl)]
    · rw [i_0, eqF (by omega), i_1, eqF (by omega), i_8, S25 (by omega), kb1, v8, q129_63, if_neg (show ¬ (2 : Int) = 0 by omega), if_neg (show ¬ (2 : Int) = 1 by omega)]
def ratB (A : AT) (a b : Int) : Prop := (0 ≤ a ∧ a < 3) ∧ (b = -1 ∨ (0 ≤ b ∧ b < (if a = 0 then A 0 1 else A 0 3)))
theorem P_rate_n (hz : ZW T A n Q k I s D f) (ha : B32 a) (hb : B32 b) (hc : ¬ ratB A a b) : cT (fun M => CW M A n Q k I s D f) 260 [pR 1 0, pI (ii a), pI (ii b), p0] 1 ∧ rA (fun M => RWx M A n Q k I s D f) (fun M => RWx M A n Q k I s D f) 303 [pR 13 819, pI (ii a), pI (ii b), p0, p0] (ii 0) 1 := by
  have hi := hz.1.1
  have g := hi.1
  obtain ⟨b1, b2⟩ := hb
  obtain ⟨a1, a2⟩ := ha
  unfold ratB at hc
  refine ⟨fun M X h hX => ?_, fun M X h => ⟨upM (upM M 819 7 (ii 0)) 819 7 (ii 1), ?_, (h.u7 hz).u7 hz, fun y hy => by rw [fr7 y hy, fr7 y hy], st7⟩⟩
  · obtain ⟨p1, p2, p3, p4, -⟩ := h.1.1
    have pre : ev true 260 0 0 [pR 1 0, pI (ii a), pI (ii b), p0] [] M X = ev true 260 0 21 [pR 1 0, pI (ii a), pI (ii b), p0] [pI (ii (if a = 0 then A 0 1 else A 0 3))] M X := by
      rw [q260_0, i_0, ieq (by omega), p2, p4]
      split <;> rfl
    rw [pre, q260_21, i_3, S1 ⟨a1, a2⟩ (by omega), kt1, q260_27, i_0, bIT]
    by_cases c1 : 0 ≤ a ∧ a < 3
    · rw [decide_eq_true c1, cond_true, ii_m1, eqF (by omega), S1 ⟨b1, b2⟩ (by split <;> omega), kt1, q260_40, i_0, bIT, decide_eq_false (by omega), cond_false, q260_43, thT hX (by decide) (by decide)]
    · rw [decide_eq_false c1, cond_false, q260_43, thT hX (by decide) (by decide)]
  · have hr : RR (upM M 819 7 (ii 0)) A := RR_k h.1.1 (by funext y; exact up_n (by decide))
    have fin : ∀ z1 z2 z3 z4, ev true 303 0 42 [pR 13 819, z1, z2, z3, z4] [] (upM M 819 7 (ii 0)) X = some (.inl (some (pI (ii 0))), upM (upM M 819 7 (ii 0)) 819 7 (ii 1), X) := fun z1 z2 z3 z4 => by rw [q303_42, i_1, S27, kb1, q303_47]
    rw [q303_0, i_0, i_2, S28 ⟨a1, a2⟩ (b32 (by omega)) (b32 (by omega)), kb1, q303_11, i_0, bIT]
    by_cases c1 : 0 ≤ a ∧ a < 3
    · rw [decide_eq_true (by omega), cond_true, ii_m1, eqF (by omega), ieq (by omega)]
      by_cases c2 : a = 0
      · rw [if_pos c2] at hc
        rw [if_pos c2, S112 hr hi ⟨b1, b2⟩, kb1, q303_28, i_0, bIT, decide_eq_false (by omega), cond_false, fin]
      · rw [if_neg c2] at hc
        rw [if_neg c2, S116 hr hi ⟨b1, b2⟩, kb1, q303_39, i_0, bIT, decide_eq_false (by omega), cond_false, fin]
    · rw [decide_eq_false (by omega), cond_false, fin]
theorem P_rate_y (hz : ZW T A n Q k I s D f) (hT : T + 1000 < 1000000) (hc : ratB A a b) : ∃ v : Int32, cA (fun M => CW M A n Q k I s D f) (fun M => CW M A n Q k I s D f) 260 [pR 1 0, pI (ii a), pI (ii b), p0] v ∧ rA (fun M => RWx M A n Q k I s D f) (fun M => RWx M A n Q k I s D f) 303 [pR 13 819, pI (ii a), pI (ii b), p0, p0] v 0 := by
  have hi := hz.1.1
  have g := hi.1
  obtain ⟨t, d, had⟩ := agr_ex hz.1.1 hz.1.2.1
  have hin := agr_in had
  obtain ⟨c1, c2⟩ := hc
  have c3 : b = -1 ∨ (0 ≤ b ∧ b < 6) := by
    rcases c2 with c2 | c2
    · exact Or.inl c2
    · right; split at c2 <;> omega
  have hbB : B32 b := by unfold B32; omega
  refine ⟨ii (if d = -1 then -1 else ratA (runA (-1) (t.toNat + d.toNat) A) a b - ratA (runA (-1) t.toNat A) a b), fun M X h => ?_, fun M X h => ?_⟩
  · obtain ⟨M', t', d', a1, a2, a3, a4⟩ := S247 (X := X) (WTof h hz (by omega)) h.1.2.2 hT
    obtain ⟨rfl, rfl⟩ := AGr_one A a2 had
    have hw := h.trial a4
    refine ⟨M', ?_, hw, a4.hi⟩
    obtain ⟨p1, p2, p3, p4, -⟩ := h.1.1
    have pre : ev true 260 0 0 [pR 1 0, pI (ii a), pI (ii b), p0] [] M X = ev true 260 0 21 [pR 1 0, pI (ii a), pI (ii b), p0] [pI (ii (if a = 0 then A 0 1 else A 0 3))] M X := by
      rw [q260_0, i_0, ieq (by omega), p2, p4]
      split <;> rfl
    have post : ∀ z3, ev true 260 0 51 [pR 1 0, pI (ii a), pI (ii b), z3] [] M X = some (.inl (some (pI (ii (if d' = -1 then -1 else ratA (runA (-1) (t'.toNat + d'.toNat) A) a b - ratA (runA (-1) t'.toNat A) a b)))), M', X) := fun z3 => by
      rw [q260_51, a1, kt1, q260_55, ii_m1]
      rcases hin with ⟨h1, h2⟩ | ⟨h1, h2, h3⟩
      · rw [eqT h2, if_pos h2]
      · obtain ⟨a', b', k1, k2, k3, k4⟩ := a3 (by omega)
        have e1 := S56 (X := X) (a := a) (b := b) k4.1.1.2.2.1 stl635 (run_SMI a' A T hi hz.1.2.1 hz.1.2.2.2.1) c1 c3
        have e2 := S56 (X := X) (a := a) (b := b) k4.2.1.1.2.2.1 stl685 (run_SMI (a' + b') A T hi hz.1.2.1 hz.1.2.2.2.1) c1 c3
        rw [eqF (by omega), if_neg (by omega), e2, kt1, q260_70, e1, kt1, q260_79, ii_sub, show t'.toNat = a' by omega, show d'.toNat = b' by omega]
    rw [pre, q260_21, i_3, S1 (b32 (by omega)) (by omega), kt1, q260_27, i_0, bIT, decide_eq_true c1, cond_true, ii_m1]
    rcases c2 with c2 | c2
    · rw [eqT c2, post]
    · rw [eqF (by split at c2 <;> omega), S1 hbB (by split <;> omega), kt1, q260_40, i_0, bIT, decide_eq_true c2, cond_true, post]
  · have h7 := h.u7 (v := ii 0) hz
    have hr := h7.1.1
    obtain ⟨M1, t', d', a1, a2, a3, a4, a5, a6, a7⟩ := R_again (X := X) h7 hz (by omega)
    obtain ⟨rfl, rfl⟩ := AGr_one A a2 had
    have post : ∃ M', (∀ z3 z4, ev true 303 0 48 [pR 13 819, pI (ii a), pI (ii b), z3, z4] [] (upM M 819 7 (ii 0)) X = some (.inl (some (pI (ii (if d' = -1 then -1 else ratA (runA (-1) (t'.toNat + d'.toNat) A) a b - ratA (runA (-1) t'.toNat A) a b)))), M', X)) ∧ RWx M' A n Q k I s D f ∧ (∀ b, b < 819 → M' b = M b) ∧ M' 819 7 = ii 0 := by
      rcases hin with ⟨h1, h2⟩ | ⟨h1, h2, h3⟩
      · refine ⟨M1, fun z3 z4 => ?_, a5, fun y hy => by rw [a6 y hy, fr7 y hy], by rw [a7, st7]⟩
        rw [q303_48, a1, kb0, q303_52, a3, ii_m1, eqT h1, if_pos h2]
      · obtain ⟨M2, b1, b2, b3⟩ := asd0 (M := M1) (X := X)
        have e2 : M2 820 = M1 820 := b2 820 (by decide)
        obtain ⟨M3, c4, c5, c6, c7⟩ := S296 (X := X) (n := t'.toNat) (WR_k (WRof a5 hz (by omega)) e2) (a5.1.2.1.cp (fun z _ _ _ => rr_at e2) SP.rf) (by omega) (by omega) (by rw [b2 819 (by decide)]; exact a5.1.2.2.2) (by omega)
        obtain ⟨M4, d4, d5, d6, d7⟩ := S296 (X := X) (n := d'.toNat) c5 c6 (by omega) (by omega) (by rw [c7.2.1 8 (by decide) (by decide), b2 819 (by decide)]; exact a5.1.2.2.2) (by omega)
        rw [← run_add] at d5
        rw [show ((t'.toNat : Nat) : Int) = t' by omega] at c4
        rw [show ((d'.toNat : Nat) : Int) = d' by omega] at d4
        have f9 : FrT9 M1 M4 := ⟨fun y c1 c2 c3 c4 => by rw [d7.1 y c1 c2 c4, c7.1 y c1 c2 c4, b2 y c3], fun j c1 c2 c3 => by rw [d7.2.1 j c2 c3, c7.2.1 j c2 c3, b2 819 (by decide)], fun z c1 c2 => by rw [d7.2.2 z c1 c2, c7.2.2 z c1 c2, rr_at e2]⟩
        have h22 : ∀ j, M4 822 j = if j < 1434 then M1 820 j else M1 822 j := fun j => by rw [d7.1 822 (by decide) (by decide) (by decide), c7.1 822 (by decide) (by decide) (by decide)]; exact b3 j
        obtain ⟨M5, e1, e3, e4, e5⟩ := asd (X := X) f9 h22
        have ef : ∀ j, j ≠ 10 → j ≠ 11 → M5 819 j = M1 819 j := fun j j1 j2 => by rw [e5, d7.2.1 j j1 j2, c7.2.1 j j1 j2, b2 819 (by decide)]
        have e15 : M3 819 15 = ii d' := by rw [c7.2.1 15 (by decide) (by decide), b2 819 (by decide)]; exact a4
        refine ⟨M5, fun z3 z4 => ?_, a5.asd hz e3 e4 (ef _ (by decide) (by decide)) (ef _ (by decide) (by decide)) (ef _ (by decide) (by decide)) (ef _ (by decide) (by decide)) (ef _ (by decide) (by decide)), fun y hy => by rw [e4 y (by omega) (by omega) (by omega), a6 y hy, fr7 y hy], by rw [ef 7 (by decide) (by decide), a7, st7]⟩
        rw [q303_48, a1, kb0, q303_52, a3, ii_m1, eqF (by omega), b1, kb0, q303_73, b2 819 (by decide), a3, c4, kb0, q303_81, S129 c5.1 c1 c3, kb1, q303_87, e15, d4, kb0, q303_96, S129 d5.1 c1 c3, kb1, q303_102, ii_sub, e1, kb0, q303_117, if_neg (by omega)]
    obtain ⟨M', q1, q2, q3, q4⟩ := post
    refine ⟨M', ?_, q2, q3, q4⟩
    rw [q303_0, i_0, i_2, S28 (b32 (by omega)) (b32 (by omega)) (b32 (by omega)), kb1, q303_11, i_0, bIT, decide_eq_true (by omega), cond_true, ii_m1]
    rcases c2 with c2 | c2
    · rw [eqT c2, q1]
    · rw [eqF (by split at c2 <;> omega), ieq (by omega)]
      by_cases c4 : a = 0
      · rw [if_pos c4] at c2
        rw [if_pos c4, S112 hr hi hbB, kb1, q303_28, i_0, bIT, decide_eq_true c2, cond_true, q1]
      · rw [if_neg c4] at c2
        rw [if_neg c4, S116 hr hi hbB, kb1, q303_39, i_0, bIT, decide_eq_true c2, cond_true, q1]
/-- a trial with one of a side's numbers another: the reference -/
theorem R_inTrial {F W : Nat} {n9 : Int} (h : RWx M A n Q k I s D f) (hz : ZW T A n Q k I s D f) (hT : T + 500 < 1000000) (ha : 0 ≤ a ∧ a < A 0 3) (ho : 0 ≤ o ∧ o < 10) (hw9 : 0 ≤ w ∧ w < 10) (hB : PW (upA A F a x) T) (hS : SP A (upA A F a x)) (hR : ∀ M, RR M A → RR (sr M (66 + 10 * a + o) (ii x)) (upA A F a x)) (hw : ∀ M B, RR M B → rr M (66 + 10 * a + w) = ii (B W a)) (hFW : W ≠ F) (hn : 0 ≤ n9 ∧ n9 ≤ 500) :
    ∃ M', ev true 304 0 0 [pR 13 819, pI (ii a), pI (ii o), pI (ii x), pI (ii n9), pI (ii w), p0, p0] [] M X = some (.inl (some (pI (ii (runA (-1) n9.toNat (upA A F a x) W a - A W a)))), M', X) ∧ RWx M' A n Q k I s D f ∧ (∀ b, b < 819 → M' b = M b) ∧ M' 819 7 = M 819 7 := by
  have hi := hz.1.1
  have g := hi.1
  obtain ⟨M1, a1, a2, a3⟩ := asd0 (M := M) (X := X)
  have e1 : M1 820 = M 820 := a2 820 (by decide)
  have hr2 := hR M1 (RR_k h.1.1 e1)
  have f2 : FrR M1 (sr M1 (66 + 10 * a + o) (ii x)) := FrR.sr (by omega) (by omega)
  have t2 : TXT (sr M1 (66 + 10 * a + o) (ii x)) (upA A F a x) := (h.1.2.1.cp (fun z _ _ _ => rr_at e1) SP.rf).mv f2 hS
  obtain ⟨M3, b1, b2, b3, b4⟩ := S296 (X := X) (n := n9.toNat) ⟨hr2, hB.1, by omega, hB.2.1⟩ t2 (by omega) (by omega) (by rw [f2.2.1 8 (by decide) (by decide), a2 819 (by decide)]; exact h.1.2.2.2) (by omega)
  rw [show ((n9.toNat : Nat) : Int) = n9 by omega] at b1
  have b5 := f2.tr b4
  have f9 : FrT9 M M3 := ⟨fun y c1 c2 c3 c4 => by rw [b5.1 y c1 c2 c4, a2 y c3], fun j c1 c2 c3 => by rw [b5.2.1 j c2 c3, a2 819 (by decide)], fun z c1 c2 => by rw [b5.2.2 z c1 c2, rr_at e1]⟩
  have h22 : ∀ j, M3 822 j = if j < 1434 then M 820 j else M 822 j := fun j => by rw [b5.1 822 (by decide) (by decide) (by decide)]; exact a3 j
  obtain ⟨M4, c1, c2, c3, c4⟩ := asd (X := X) f9 h22
  have ef : ∀ j, j ≠ 10 → j ≠ 11 → M4 819 j = M 819 j := fun j j1 j2 => by rw [c4, b5.2.1 j j1 j2, a2 819 (by decide)]
  refine ⟨M4, ?_, h.asd hz c2 c3 (ef _ (by decide) (by decide)) (ef _ (by decide) (by decide)) (ef _ (by decide) (by decide)) (ef _ (by decide) (by decide)) (ef _ (by decide) (by decide)), fun y hy => c3 y (by omega) (by omega) (by omega), ef 7 (by decide) (by decide)⟩
  have w1 := hw _ _ hr2
  rw [upA_f hFW] at w1
  rw [q304_0, a1, kb0, q304_11, i_66, i_10, ii_mul, ii_add, ii_add, inR (by omega), sr_i (M := M1) (by omega), S25 (by omega), kb1, w1, q304_33, b1, kb0, q304_41, S25 (by omega), kb1, hw _ _ b2.1, q304_48, ii_sub, c1, kb0, q304_64]
end RAT
