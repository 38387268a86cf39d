/-! the calls that change something: the reference -/
section RCA
set_option maxRecDepth 100000
variable {u p v l g : Nat} {j q e w c T T' tu tv nx off sh i z y N t x a b d : Int} {A B C I I' A' B' : AT} {M M' M0 : Mem} {X : PX} {L : Bool} {n s m : Nat} {Q Q' : Nat → AT} {k : Bool} {D : Nat → Int} {f : Int}
theorem S28 (ha : B32 a) (hb : B32 b) (hd : B32 d) : ev true 28 0 0 [pI (ii a), pI (ii b), pI (ii d)] [] M X = some (.inl (some (pI (bI (decide (b ≤ a ∧ a ≤ d))))), M, X) := by
  obtain ⟨a1, a2⟩ := ha
  obtain ⟨b1, b2⟩ := hb
  obtain ⟨d1, d2⟩ := hd
  rw [q28_0, ilt (by omega)]
  by_cases c : a < b
  · rw [if_pos c, q28_14, i_0, q28_15, rk0, decide_eq_false (by omega)]; rfl
  · rw [if_neg c, ilt (by omega)]
    by_cases e : d < a
    · rw [if_pos e, q28_14, i_0, q28_15, rk0, decide_eq_false (by omega)]; rfl
    · rw [if_neg e, i_1, q28_15, rk1, decide_eq_true (by omega)]; rfl
theorem b32 (h : 0 ≤ a ∧ a < 2000000) : B32 a := by unfold B32; omega
theorem dc {P R : Prop} [Decidable P] [Decidable R] (h : P ↔ R) : decide P = decide R := by
  by_cases c : P
  · rw [decide_eq_true c, decide_eq_true (h.mp c)]
  · rw [decide_eq_false c, decide_eq_false (fun z => c (h.mpr z))]
theorem S116 (hr : RR M A) (hi : INV A T) (ha : B32 a) : ev true 116 0 0 [pR 13 819, pI (ii a)] [] M X = some (.inl (some (pI (bI (decide (0 ≤ a ∧ a < A 0 3))))), M, X) := by
  have g := hi.1
  have t3 : M 820 3 = ii (A 0 3) := hr.1 3 (by omega) (by omega)
  rw [q116_0, i_3, inR (by omega), t3, i_0, i_1, ii_sub, S28 ha (b32 (by omega)) (by unfold B32; omega), kb1, q116_13, rkT, dc (show 0 ≤ a ∧ a ≤ A 0 3 - 1 ↔ 0 ≤ a ∧ a < A 0 3 by omega)]
theorem S115 (hr : RR M A) (hi : INV A T) (ha : B32 a) : ev true 115 0 0 [pR 13 819, pI (ii a)] [] M X = some (.inl (some (pI (bI (decide (0 ≤ a ∧ a < A 0 2))))), M, X) := by
  have g := hi.1
  have t3 : M 820 2 = ii (A 0 2) := hr.1 2 (by omega) (by omega)
  rw [q115_0, i_2, inR (by omega), t3, i_0, i_1, ii_sub, S28 ha (b32 (by omega)) (by unfold B32; omega), kb1, q115_13, rkT, dc (show 0 ≤ a ∧ a ≤ A 0 2 - 1 ↔ 0 ≤ a ∧ a < A 0 2 by omega)]
theorem S112 (hr : RR M A) (hi : INV A T) (ha : B32 a) : ev true 112 0 0 [pR 13 819, pI (ii a)] [] M X = some (.inl (some (pI (bI (decide (0 ≤ a ∧ a < A 0 1))))), M, X) := by
  have g := hi.1
  have t3 : M 820 1 = ii (A 0 1) := hr.1 1 (by omega) (by omega)
  rw [q112_0, i_1, inR (by omega), t3, i_0, ii_sub, S28 ha (b32 (by omega)) (by unfold B32; omega), kb1, q112_13, rkT, dc (show 0 ≤ a ∧ a ≤ A 0 1 - 1 ↔ 0 ≤ a ∧ a < A 0 1 by omega)]
theorem S110 (hr : RR M A) (hi : INV A T) (ha : B32 a) : ev true 110 0 0 [pR 13 819, pI (ii a)] [] M X = some (.inl (some (pI (bI (decide (0 ≤ a ∧ a < A 0 0))))), M, X) := by
  have g := hi.1
  have t3 : rr M 0 = ii (A 0 0) := hr.1 0 (by omega) (by omega)
  rw [q110_0, S23, kb1, t3, i_0, q110_6, i_1, ii_sub, S28 ha (b32 (by omega)) (by unfold B32; omega), kb1, q110_11, rkT, dc (show 0 ≤ a ∧ a ≤ A 0 0 - 1 ↔ 0 ≤ a ∧ a < A 0 0 by omega)]
theorem S27 {v : Int32} : ev true 27 0 0 [pR 13 819, pI v] [] M X = some (.inl (some (pI (ii 0))), upM M 819 7 v, X) := by
  rw [q27_0, i_0]
theorem WRof (h : RWx M A n Q k I s D f) (hz : ZW T A n Q k I s D f) (hT : T < 1000000) : WR M A T := ⟨h.1.1, hz.1.1, hT, hz.1.2.1⟩
theorem RWx.up {j : Nat} {v : Int32} (h : RWx M A n Q k I s D f) (hz : ZW T A n Q k I s D f) (h5 : j ≠ 5) (h6 : j ≠ 6) (h17 : j ≠ 17) (h25 : j ≠ 25) (h8 : j ≠ 8) : RWx (upM M 819 j v) A n Q k I s D f := h.mv hz (h.1.mv hz.1.1 (fun z _ _ => rr_un (by decide)) (up_d (fun z => h8 z.symm))) (FrN.up h5 h6 h17 h25)
theorem R_keep (h : RWx M A n Q k I s D f) (hz : ZW T A n Q k I s D f) : ∃ M', ev true 35 0 0 [pR 13 819, p0] [] M X = some (.inl none, M', X) ∧ RWx M' A (kpN n) (kpQ n Q A) k I s D f ∧ (∀ b, b < 819 → M' b = M b) ∧ M' 819 7 = M 819 7 := by
  obtain ⟨h1, h2, h3, h4, h5⟩ := h
  obtain ⟨M', a1, a2, a3, a4, a5⟩ := S35 (X := X) h2.1 h2.2.1
  have e20 : M' 820 = M 820 := a3 820 (by decide) (by decide)
  exact ⟨M', a1, ⟨h1.mv hz.1.1 (fun z _ _ => rr_at e20) (a4 8 (by decide)), AR_kp h2 h1.1 hz.1.1 (fun i hi => (hz.2.2.1 i hi).1.1) a2 e20 a5, RI_k h3 (fun hk => (hz.2.2.2.1 hk).1) (a4 5 (by decide)) (a3 823 (by decide) (by decide)), RD0_k h4 (a4 17 (by decide)) (a3 827 (by decide) (by decide)), (a4 25 (by decide)).trans h5⟩, fun b hb => a3 b (by omega) (by omega), a4 7 (by decide)⟩
theorem R_push_n (h : RWx M A n Q k I s D f) (hz : ZW T A n Q k I s D f) (ha : B32 a) (hb : B32 b) (hc : ¬ pshB A a b) : ∃ z3, ev true 185 0 0 [pR 13 819, pI (ii a), pI (ii b), p0] [] M X = ev true 185 0 36 [pR 13 819, pI (ii a), pI (ii b), z3] [] (upM M 819 7 (ii 0)) X := by
  have hi := hz.1.1
  have g := hi.1
  have hr : RR (upM M 819 7 (ii 0)) A := RR_k h.1.1 (by funext y; exact up_n (by decide))
  refine ⟨p0, ?_⟩
  rw [q185_0, i_0, S116 hr hi ha, kb1, q185_10, i_0, bIT]
  by_cases c1 : 0 ≤ a ∧ a < A 0 3
  · rw [decide_eq_true c1, cond_true, S115 hr hi hb, kb1, q185_18, i_0, bIT]
    by_cases c2 : 0 ≤ b ∧ b < A 0 2
    · obtain ⟨v0, v1, v2, v3, v4, -⟩ := hr.2.2.2.1 a c1.1 (by omega)
      obtain ⟨d1, d2, d3, d4, d5, d6, d7, d8, d9, d10, -⟩ := hi.2.2.2.1 a c1.1 c1.2
      have c3 : A 41 a ≤ A 44 a := by
        rcases Int.lt_or_le (A 44 a) (A 41 a) with h | h
        · exact absurd ⟨c1, c2, h⟩ hc
        · exact h
      rw [decide_eq_true c2, cond_true, i_4, S25 (by omega), kb1, v4, q185_27, i_1, S25 (by omega), kb1, v1, q185_33, ltF (by omega)]
    · rw [decide_eq_false c2, cond_false]
  · rw [decide_eq_false c1, cond_false]
theorem R_push_n' (h : RWx M A n Q k I s D f) (hz : ZW T A n Q k I s D f) (ha : B32 a) (hb : B32 b) (hc : ¬ pshB A a b) : ∃ M', ev true 185 0 0 [pR 13 819, pI (ii a), pI (ii b), p0] [] M X = some (.inl (some (pI (ii (-1)))), M', X) ∧ RWx M' A n Q k I s D f ∧ ∀ b, b < 819 → M' b = M b := by
  obtain ⟨z3, e⟩ := R_push_n (X := X) h hz ha hb hc
  exact ⟨_, by rw [e, q185_36, ii_m1], h.up hz (by decide) (by decide) (by decide) (by decide) (by decide), fun b hb => by funext y; exact up_n (by omega)⟩
theorem R_push_y (h : RWx M A n Q k I s D f) (hz : ZW T A n Q k I s D f) (hT : T < 1000000) (ha : B32 a) (hb : B32 b) (hc : pshB A a b) : ∃ M', ev true 185 0 0 [pR 13 819, pI (ii a), pI (ii b), p0] [] M X = some (.inl (some (pI (ii (A 44 a + 1)))), M', X) ∧ RWx M' (joinA A a b) (kpN n) (kpQ n Q A) k I s D f ∧ ∀ b, b < 819 → M' b = M b := by
  obtain ⟨c1, c2, c3⟩ := hc
  have hi := hz.1.1
  have g := hi.1
  obtain ⟨d1, d2, d3, d4, d5, d6, d7, d8, d9, d10, -⟩ := hi.2.2.2.1 a c1.1 c1.2
  have h1 := h.up (j := 7) (v := ii 0) hz (by decide) (by decide) (by decide) (by decide) (by decide)
  have hr := h1.1.1
  obtain ⟨v0, v1, v2, v3, v4, -⟩ := hr.2.2.2.1 a c1.1 (by omega)
  obtain ⟨M1, a1, a2, a3, a4⟩ := R_keep (X := X) h1 hz
  have hz1 := hz.keep hz.1 SP.rf
  obtain ⟨M2, b1, b2, b3⟩ := S122 (X := X) (w := b) (WRof a2 hz1 hT) c1.1 c1.2
  rw [if_pos c3] at b2
  have jp := join_PW hz.1 c1.1 c1.2 c3 c2.1 c2.2
  refine ⟨M2, ?_, a2.mv hz1 ⟨b2, a2.1.2.1.mv b3 join_SP, a2.1.2.2.1.mv b3 join_SP, by rw [b3.2.1 8 (by decide) (by decide)]; exact a2.1.2.2.2⟩ (FrN.r b3), fun y hy => by rw [b3.1 y (by omega) (by omega) (by omega), a3 y hy]; funext z; exact up_n (by omega)⟩
  obtain ⟨w0, w1, w2, w3, w4, -⟩ := b2.2.2.2.1 a c1.1 (by omega)
  rw [join_44, if_pos rfl] at w4
  rw [q185_0, i_0, S116 hr hi ha, kb1, q185_10, i_0, bIT, decide_eq_true c1, cond_true, S115 hr hi hb, kb1, q185_18, i_0, bIT, decide_eq_true c2, cond_true, i_4, S25 (by omega), kb1, v4, q185_27, i_1, S25 (by omega), kb1, v1, q185_33, ltT (by omega), a1, kb0, q185_42, b1, kb1, q185_48, i_4, S25 (by omega), kb1, w4, q185_55]
theorem R_shut_n (h : RWx M A n Q k I s D f) (hz : ZW T A n Q k I s D f) (ha : B32 a) (hb : B32 b) (hc : ¬ ((0 ≤ a ∧ a < A 0 1) ∧ (0 ≤ b ∧ b ≤ 999))) : ∃ M', ev true 186 0 0 [pR 13 819, pI (ii a), pI (ii b), p0] [] M X = some (.inl (some (pI (ii 0))), M', X) ∧ RWx M' A n Q k I s D f ∧ (∀ b, b < 819 → M' b = M b) ∧ M' 819 7 = ii (if 0 ≤ a ∧ a < A 0 1 then 2 else 1) := by
  have hi := hz.1.1
  have hr := h.1.1
  have fin : ∀ c : Int, 0 < c ∧ c < 10 → ∃ M', ev true 186 0 29 [pR 13 819, pI (ii a), pI (ii b), p0] [pI (ii c), pR 13 819] M X = some (.inl (some (pI (ii 0))), M', X) ∧ RWx M' A n Q k I s D f ∧ (∀ b, b < 819 → M' b = M b) ∧ M' 819 7 = ii c := fun c hc => ⟨_, by rw [q186_29, up_s, if_pos rfl, i_0, ltT (by omega)], h.up hz (by decide) (by decide) (by decide) (by decide) (by decide), fun b hb => by funext y; exact up_n (by omega), by rw [up_s, if_pos rfl]⟩
  rw [q186_0, S112 hr hi ha, kb1, q186_6, i_0, bIT]
  by_cases c1 : 0 ≤ a ∧ a < A 0 1
  · rw [decide_eq_true c1, cond_true, i_999, S28 hb (b32 (by omega)) (b32 (by omega)), kb1, q186_21, i_0, bIT, decide_eq_false (fun z => hc ⟨c1, z⟩), cond_false, i_2, if_pos c1]
    exact fin 2 (by omega)
  · rw [decide_eq_false c1, cond_false, i_1, if_neg c1]
    exact fin 1 (by omega)
theorem R_shut_y (h : RWx M A n Q k I s D f) (hz : ZW T A n Q k I s D f) (ha : B32 a) (hb : B32 b) (c1 : 0 ≤ a ∧ a < A 0 1) (c2 : 0 ≤ b ∧ b ≤ 999) : ∃ M', ev true 186 0 0 [pR 13 819, pI (ii a), pI (ii b), p0] [] M X = some (.inl (some (pI (ii (A 32 a)))), M', X) ∧ RWx M' (upA A 32 a b) (kpN n) (kpQ n Q A) k I s D f ∧ (∀ b, b < 819 → M' b = M b) ∧ M' 819 7 = ii 0 := by
  have hi := hz.1.1
  have g := hi.1
  have hr := h.1.1
  have h1 := h.up (j := 7) (v := ii 0) hz (by decide) (by decide) (by decide) (by decide) (by decide)
  obtain ⟨M1, a1, a2, a3, a4⟩ := R_keep (X := X) h1 hz
  have hz1 := hz.keep hz.1 SP.rf
  obtain ⟨r0, r1, r2, -⟩ := a2.1.1.2.1 a c1.1 (by omega)
  obtain ⟨sp1, sp2⟩ := set_PW (g := 32) (j := a) (x := b) hz.1 (by omega) c1.1 ⟨fun _ => c2, fun z => absurd z (by decide), fun z => absurd z (by decide), fun z => absurd z (by decide)⟩
  have hr2 := RR_32 (v := b) a2.1.1 c1.1 (by omega)
  have fr : FrR M1 (sr M1 (12 + 5 * a + 2) (ii b)) := FrR.sr (by omega) (by omega)
  refine ⟨sr M1 (12 + 5 * a + 2) (ii b), ?_, a2.mv hz1 ⟨hr2, a2.1.2.1.mv fr sp2, a2.1.2.2.1.mv fr sp2, by rw [fr.2.1 8 (by decide) (by decide)]; exact a2.1.2.2.2⟩ (FrN.r fr), fun y hy => by rw [fr.1 y (by omega) (by omega) (by omega), a3 y hy]; funext z; exact up_n (by omega), by rw [fr.2.1 7 (by decide) (by decide), a4, up_s, if_pos rfl]⟩
  rw [q186_0, S112 hr hi ha, kb1, q186_6, i_0, bIT, decide_eq_true c1, cond_true, i_999, S28 hb (b32 (by omega)) (b32 (by omega)), kb1, q186_21, i_0, bIT, decide_eq_true c2, cond_true, q186_29, up_s, if_pos rfl, i_0, ltF (by omega), a1, kb0, q186_45, i_2, S29 (by omega), kb1, r2, q186_51, i_12, i_5, i_2, ii_mul, ii_add, ii_add, inR (by omega), sr_i (M := M1) (by omega)]
theorem R_change_p (h : RWx M A n Q k I s D f) (hz : ZW T A n Q k I s D f) (ha : B32 a) (hb : B32 b) (hd : B32 d) : ∃ (z4 : PV) (x5 : Int32) (r : Bool), (r = true ↔ ((0 ≤ b ∧ b < 3) → chB A b d)) ∧ ev true 187 0 0 [pR 13 819, pI (ii a), pI (ii b), pI (ii d), p0, p0, p0, p0] [] M X = ev true 187 0 77 [pR 13 819, pI (ii a), pI (ii b), pI (ii d), z4, pI x5, p0, p0] [pI (ii (if (0 ≤ a ∧ a < A 0 3) ∧ (0 ≤ b ∧ b < 3) then (if r = true then 0 else 2) else 1)), pR 13 819] M X := by
  have hi := hz.1.1
  have g := hi.1
  have hr := h.1.1
  have t0 : rr M 0 = ii (A 0 0) := hr.1 0 (by omega) (by omega)
  obtain ⟨b1, b2⟩ := hb
  have step : ∀ lo hi9 : Int, B32 lo → B32 hi9 → ((0 ≤ b ∧ b < 3) → (chB A b d ↔ lo ≤ d ∧ d ≤ hi9)) → ∃ (z4 : PV) (x5 : Int32) (r : Bool), (r = true ↔ ((0 ≤ b ∧ b < 3) → chB A b d)) ∧ ev true 187 0 37 [pR 13 819, pI (ii a), pI (ii b), pI (ii d), pI (ii lo), p0, p0, p0] [pI (ii hi9)] M X = ev true 187 0 77 [pR 13 819, pI (ii a), pI (ii b), pI (ii d), z4, pI x5, p0, p0] [pI (ii (if (0 ≤ a ∧ a < A 0 3) ∧ (0 ≤ b ∧ b < 3) then (if r = true then 0 else 2) else 1)), pR 13 819] M X := by
    intro lo hi9 l1 l2 l3
    refine ⟨pI (ii lo), ii hi9, decide ((0 ≤ b ∧ b < 3) → (lo ≤ d ∧ d ≤ hi9)), ?_, ?_⟩
    · rw [decide_eq_true_eq]
      exact ⟨fun z y => (l3 y).mpr (z y), fun z y => (l3 y).mp (z y)⟩
    rw [q187_37, S116 hr hi ha, kb1, q187_45, i_0, bIT]
    by_cases c1 : 0 ≤ a ∧ a < A 0 3
    · rw [decide_eq_true c1, cond_true, i_2, S28 ⟨b1, b2⟩ (b32 (by omega)) (b32 (by omega)), kb1, q187_54, i_0, bIT]
      by_cases c2 : 0 ≤ b ∧ b < 3
      · rw [decide_eq_true (by omega), cond_true, S28 hd l1 l2, kb1, q187_69, i_0, bIT, if_pos ⟨c1, c2⟩]
        by_cases c3 : lo ≤ d ∧ d ≤ hi9
        · rw [decide_eq_true c3, cond_true, if_pos (decide_eq_true (fun _ => c3))]
        · rw [decide_eq_false c3, cond_false, if_neg (by rw [decide_eq_true_eq]; exact fun z => c3 (z c2)), i_2]
      · rw [decide_eq_false (by omega), cond_false, q187_57, if_neg (fun z => c2 z.2), i_1]
    · rw [decide_eq_false c1, cond_false, q187_57, if_neg (fun z => c1 z.1), i_1]
  rw [q187_0, i_1, ieq (by omega)]
  by_cases c1 : b = 1
  · rw [if_pos c1, i_0, q187_10, i_0, ieq (by omega), if_neg (by omega), i_1, ieq (by omega), if_pos c1, S23, kb1, t0, q187_30, i_1, ii_sub]
    exact step 0 (A 0 0 - 1) (b32 (by omega)) (by unfold B32; omega) (fun _ => ⟨fun z => by have := z.2.1 c1; omega, fun z => ⟨fun e => by omega, fun _ => by omega, fun e => by omega⟩⟩)
  · rw [if_neg c1, q187_10, i_0, ieq (by omega)]
    by_cases c0 : b = 0
    · rw [if_pos c0, i_20]
      exact step 1 20 (b32 (by omega)) (b32 (by omega)) (fun _ => ⟨fun z => by have := z.1 c0; omega, fun z => ⟨fun _ => by omega, fun e => by omega, fun e => by omega⟩⟩)
    · rw [if_neg c0, i_1, ieq (by omega), if_neg c1, i_9]
      exact step 1 9 (b32 (by omega)) (b32 (by omega)) (fun hb3 => ⟨fun z => by have := z.2.2 (by omega); omega, fun z => ⟨fun e => by omega, fun e => by omega, fun _ => by omega⟩⟩)
theorem R_change_n (h : RWx M A n Q k I s D f) (hz : ZW T A n Q k I s D f) (ha : B32 a) (hb : B32 b) (hd : B32 d) (hc : ¬ (((0 ≤ a ∧ a < A 0 3) ∧ (0 ≤ b ∧ b < 3)) ∧ chB A b d)) : ∃ M', ev true 187 0 0 [pR 13 819, pI (ii a), pI (ii b), pI (ii d), p0, p0, p0, p0] [] M X = some (.inl (some (pI (ii 0))), M', X) ∧ RWx M' A n Q k I s D f ∧ (∀ b, b < 819 → M' b = M b) ∧ M' 819 7 = ii (if (0 ≤ a ∧ a < A 0 3) ∧ (0 ≤ b ∧ b < 3) then 2 else 1) := by
  obtain ⟨z4, x5, r, er, e⟩ := R_change_p (X := X) h hz ha hb hd
  have fin : ∀ c : Int, 0 < c ∧ c < 10 → ∃ M', ev true 187 0 77 [pR 13 819, pI (ii a), pI (ii b), pI (ii d), z4, pI x5, p0, p0] [pI (ii c), pR 13 819] M X = some (.inl (some (pI (ii 0))), M', X) ∧ RWx M' A n Q k I s D f ∧ (∀ b, b < 819 → M' b = M b) ∧ M' 819 7 = ii c := fun c hc => ⟨_, by rw [q187_77, up_s, if_pos rfl, i_0, ltT (by omega)], h.up hz (by decide) (by decide) (by decide) (by decide) (by decide), fun b hb => by funext y; exact up_n (by omega), by rw [up_s, if_pos rfl]⟩
  rw [e]
  by_cases c1 : (0 ≤ a ∧ a < A 0 3) ∧ (0 ≤ b ∧ b < 3)
  · rw [if_pos c1, if_neg (fun z => hc ⟨c1, er.mp z c1.2⟩), if_pos c1]
    exact fin 2 (by omega)
  · rw [if_neg c1, if_neg c1]
    exact fin 1 (by omega)
theorem R_change_y (h : RWx M A n Q k I s D f) (hz : ZW T A n Q k I s D f) (ha : B32 a) (hb : B32 b) (hd : B32 d) (c1 : (0 ≤ a ∧ a < A 0 3) ∧ (0 ≤ b ∧ b < 3)) (c2 : chB A b d) : ∃ M', ev true 187 0 0 [pR 13 819, pI (ii a), pI (ii b), pI (ii d), p0, p0, p0, p0] [] M X = some (.inl (some (pI (ii (A (chF b) a)))), M', X) ∧ RWx M' (upA A (chF b) a d) (kpN n) (kpQ n Q A) k I s D f ∧ (∀ b, b < 819 → M' b = M b) ∧ M' 819 7 = ii 0 ∧ PW (upA A (chF b) a d) T ∧ SP A (upA A (chF b) a d) := by
  obtain ⟨z4, x5, r, er, e⟩ := R_change_p (X := X) h hz ha hb hd
  rw [if_pos c1, if_pos (er.mpr fun _ => c2)] at e
  have hi := hz.1.1
  have g := hi.1
  have h1 := h.up (j := 7) (v := ii 0) hz (by decide) (by decide) (by decide) (by decide) (by decide)
  obtain ⟨M1, a1, a2, a3, a4⟩ := R_keep (X := X) h1 hz
  have hz1 := hz.keep hz.1 SP.rf
  obtain ⟨v0, v1, v2, v3, -⟩ := a2.1.1.2.2.2.1 a c1.1.1 (by omega)
  have fin : ∀ (o : Int) (F : Nat), ii b = ii o → 0 ≤ o ∧ o < 3 → rr M1 (66 + 10 * a + 1 + o) = ii (A F a) → RR (sr M1 (66 + 10 * a + 1 + o) (ii d)) (upA A F a d) → PW (upA A F a d) T → SP A (upA A F a d) → ∃ M', ev true 187 0 0 [pR 13 819, pI (ii a), pI (ii b), pI (ii d), p0, p0, p0, p0] [] M X = some (.inl (some (pI (ii (A F a)))), M', X) ∧ RWx M' (upA A F a d) (kpN n) (kpQ n Q A) k I s D f ∧ (∀ b, b < 819 → M' b = M b) ∧ M' 819 7 = ii 0 ∧ PW (upA A F a d) T ∧ SP A (upA A F a d) := by
    intro o F o1 o2 o3 o4 o5 o6
    have fr : FrR M1 (sr M1 (66 + 10 * a + 1 + o) (ii d)) := FrR.sr (by omega) (by omega)
    refine ⟨sr M1 (66 + 10 * a + 1 + o) (ii d), ?_, a2.mv hz1 ⟨o4, a2.1.2.1.mv fr o6, a2.1.2.2.1.mv fr o6, by rw [fr.2.1 8 (by decide) (by decide)]; exact a2.1.2.2.2⟩ (FrN.r fr), fun y hy => by rw [fr.1 y (by omega) (by omega) (by omega), a3 y hy]; funext z; exact up_n (by omega), by rw [fr.2.1 7 (by decide) (by decide), a4, up_s, if_pos rfl], o5, o6⟩
    rw [e, q187_77, up_s, if_pos rfl, i_0, ltF (by omega), a1, kb0, q187_93, o1, i_66, i_10, i_1, ii_mul, ii_add, ii_add, ii_add, inR (by omega), inR (by omega), rr_i M1 (by omega), o3, sr_i (M := M1) (by omega)]
  rcases (by omega : b = 0 ∨ b = 1 ∨ b = 2) with rfl | rfl | rfl
  · obtain ⟨p1, p2⟩ := set_PW (g := 41) (j := a) (x := d) hz.1 (by omega) c1.1.1 ⟨fun z => absurd z (by decide), fun _ => c2.1 rfl, fun z => absurd z (by decide), fun z => absurd z (by decide)⟩
    exact fin 0 41 rfl (by omega) (by rw [Int.add_zero]; exact v1) (by rw [Int.add_zero]; exact RR_41 a2.1.1 c1.1.1 (by omega)) p1 p2
  · obtain ⟨p1, p2⟩ := set_PW (g := 42) (j := a) (x := d) hz.1 (by omega) c1.1.1 ⟨fun z => absurd z (by decide), fun z => absurd z (by decide), fun _ => c2.2.1 rfl, fun z => absurd z (by decide)⟩
    exact fin 1 42 rfl (by omega) (by rw [show 66 + 10 * a + 1 + 1 = 66 + 10 * a + 2 by omega]; exact v2) (by rw [show 66 + 10 * a + 1 + 1 = 66 + 10 * a + 2 by omega]; exact RR_42 a2.1.1 c1.1.1 (by omega)) p1 p2
  · obtain ⟨p1, p2⟩ := set_PW (g := 43) (j := a) (x := d) hz.1 (by omega) c1.1.1 ⟨fun z => absurd z (by decide), fun z => absurd z (by decide), fun z => absurd z (by decide), fun _ => c2.2.2 rfl⟩
    exact fin 2 43 rfl (by omega) (by rw [show 66 + 10 * a + 1 + 2 = 66 + 10 * a + 3 by omega]; exact v3) (by rw [show 66 + 10 * a + 1 + 2 = 66 + 10 * a + 3 by omega]; exact RR_43 a2.1.1 c1.1.1 (by omega)) p1 p2
theorem R_ticks_n (h : RWx M A n Q k I s D f) (hz : ZW T A n Q k I s D f) (ha : B32 a) (hc : ¬ (1 ≤ a ∧ a ≤ 500)) : ∃ M', ev true 300 0 0 [pR 13 819, pI (ii a), p0] [] M X = some (.inl (some (pI (ii 0))), M', X) ∧ RWx M' A n Q k I s D f ∧ (∀ b, b < 819 → M' b = M b) ∧ M' 819 7 = ii 1 := by
  have h1 := h.up (j := 7) (v := ii 0) hz (by decide) (by decide) (by decide) (by decide) (by decide)
  refine ⟨_, ?_, h1.up (j := 7) (v := ii 1) hz (by decide) (by decide) (by decide) (by decide) (by decide), fun b hb => by funext y; rw [up_n (by omega), up_n (by omega)], by rw [up_s, if_pos rfl]⟩
  rw [q300_0, i_1, i_500, i_0, S28 ha (b32 (by omega)) (b32 (by omega)), kb1, q300_13, i_0, bIT, decide_eq_false hc, cond_false, i_1, S27, kb1, q300_21]
theorem R_ticks_y (h : RWx M A n Q k I s D f) (hz : ZW T A n Q k I s D f) (hT : T + 500 < 1000000) (hc : 1 ≤ a ∧ a ≤ 500) : ∃ M', ev true 300 0 0 [pR 13 819, pI (ii a), p0] [] M X = some (.inl (some (pI (ii (runA (-1) a.toNat A 0 6 - A 0 6)))), M', X) ∧ RWx M' (runA (-1) a.toNat A) (kpN n) (kpQ n Q A) k I s D f ∧ (∀ b, b < 819 → M' b = M b) ∧ M' 819 7 = ii 0 := by
  have hi := hz.1.1
  have h1 := h.up (j := 7) (v := ii 0) hz (by decide) (by decide) (by decide) (by decide) (by decide)
  obtain ⟨M1, a1, a2, a3, a4⟩ := R_keep (X := X) h1 hz
  have hz1 := hz.keep hz.1 SP.rf
  obtain ⟨M2, b1, b2, b3, b4⟩ := S296 (X := X) (n := a.toNat) (WRof a2 hz1 (by omega)) a2.1.2.1 (by omega) (by omega) a2.1.2.2.2 (by omega)
  rw [show ((a.toNat : Nat) : Int) = a by omega] at b1
  have t6 : M1 820 6 = ii (A 0 6) := a2.1.1.1 6 (by omega) (by omega)
  have t6' : M2 820 6 = ii (runA (-1) a.toNat A 0 6) := b2.1.1 6 (by omega) (by omega)
  refine ⟨M2, ?_, a2.mv hz1 ⟨b2.1, b3, a2.1.2.2.1.mv b4 (run_SP _ _), by rw [b4.2.1 8 (by decide) (by decide)]; exact a2.1.2.2.2⟩ (FrN.r b4), fun y hy => by rw [b4.1 y (by omega) (by omega) (by omega), a3 y hy]; funext z; exact up_n (by omega), by rw [b4.2.1 7 (by decide) (by decide), a4, up_s, if_pos rfl]⟩
  rw [q300_0, i_1, i_500, i_0, S28 (b32 (by omega)) (b32 (by omega)) (b32 (by omega)), kb1, q300_13, i_0, bIT, decide_eq_true hc, cond_true, a1, kb0, q300_26, i_6, inR (by omega), t6, b1, kb0, q300_39, i_6, inR (by omega), t6', ii_sub]
theorem R_undo_n (h : RWx M A 0 Q k I s D f) (hz : ZW T A 0 Q k I s D f) : ∃ M', ev true 37 0 0 [pR 13 819, p0] [] M X = some (.inl (some (pI (ii (-1)))), M', X) ∧ RWx M' A 0 Q k I s D f ∧ ∀ b, b < 819 → M' b = M b := by
  have e6 : upM M 819 7 (ii 0) 819 6 = ii 0 := by rw [up_d (by decide)]; exact h.2.1.1
  exact ⟨upM M 819 7 (ii 0), by rw [q37_0, i_0, e6, eqT rfl, ii_m1], h.up hz (by decide) (by decide) (by decide) (by decide) (by decide), fun b hb => by funext y; exact up_n (by omega)⟩
theorem R_undo_y (h : RWx M A n Q k I s D f) (hz : ZW T A n Q k I s D f) (hn : 0 < n) : ∃ M', ev true 37 0 0 [pR 13 819, p0] [] M X = some (.inl (some (pI (ii ((n : Int) - 1)))), M', X) ∧ RWx M' (Q (n - 1)) (n - 1) Q k I s D f ∧ ∀ b, b < 819 → M' b = M b := by
  obtain ⟨h1, h2, h3, h4, h5⟩ := h
  obtain ⟨M', a1, a2, a3, a4, a5, a6⟩ := S37 (X := X) h2.1 h2.2.1 hn
  obtain ⟨q1, q2⟩ := hz.2.2.1 (n - 1) (by omega)
  obtain ⟨r1, r2⟩ := h2.2.2 (n - 1) (by omega)
  have hk : ∀ z : Int, 0 ≤ z → z < 1434 → rr M' z = rr (vw M 824 (1434 * (n - 1))) z := fun z z1 z2 => by
    rw [rr_vw z1]
    unfold rr
    rw [a6, if_pos (by omega)]
  have ht : TXE M M' := fun z z1 z2 z3 => (hk z z1 z2).trans (r2 z z1 z2 z3)
  refine ⟨M', a1, ⟨⟨RR_c r1 q1.1 hk, h1.2.1.cp ht q2, h1.2.2.1.cp ht q2, by rw [a4 8 (by decide) (by decide)]; exact h1.2.2.2⟩, ⟨a2, by have := h2.2.1; omega, fun i hi => ?_⟩, RI_k h3 (fun hk => (hz.2.2.2.1 hk).1) (a4 5 (by decide) (by decide)) (a3 823 (by decide) (by decide)), RD0_k h4 (a4 17 (by decide) (by decide)) (a3 827 (by decide) (by decide)), by rw [a4 25 (by decide) (by decide)]; exact h5⟩, fun b hb => a3 b (by omega) (by omega)⟩
  obtain ⟨p1, p2⟩ := h2.2.2 i (by omega)
  have e24 : M' 824 = M 824 := a3 824 (by decide) (by decide)
  refine ⟨RR_c p1 (hz.2.2.1 i (by omega)).1.1 (vw_at e24), fun z z1 z2 z3 => ?_⟩
  rw [vw_at e24 z z1 z2, p2 z z1 z2 z3, ht z z1 z2 z3]
theorem R_image (h : RWx M A n Q k I s D f) (hz : ZW T A n Q k I s D f) : ∃ M', ev true 127 0 0 [pR 13 819] [] M X = some (.inl none, M', X) ∧ RWx M' A n Q true A s D f ∧ ∀ b, b < 819 → M' b = M b := by
  have h1 := h.up (j := 7) (v := ii 0) hz (by decide) (by decide) (by decide) (by decide) (by decide)
  obtain ⟨M1, a1, a2, a3⟩ := S38 (M := upM M 819 7 (ii 0)) (X := X) ln823 ln820 (show (823 : Nat) ≠ 820 by decide)
  obtain ⟨b1, b2, b3, b4, b5⟩ := h1
  have e20 : upM M1 819 5 (ii 1) 820 = upM M 819 7 (ii 0) 820 := by funext y; rw [up_n (by decide), a2 820 (by decide)]
  have hk : ∀ z : Int, 0 ≤ z → z < 1434 → rr (vw (upM M1 819 5 (ii 1)) 823 0) z = rr (upM M 819 7 (ii 0)) z := fun z z1 z2 => by
    rw [rr_vw z1, up_n (by decide), Nat.zero_add, a3, if_pos (by omega)]
    rfl
  have e8 : ∀ j, j ≠ 5 → upM M1 819 5 (ii 1) 819 j = upM M 819 7 (ii 0) 819 j := fun j hj => by rw [up_d hj, a2 819 (by decide)]
  refine ⟨upM M1 819 5 (ii 1), ?_, ⟨b1.mv hz.1.1 (fun z _ _ => rr_at e20) (e8 8 (by decide)), AR_k b2 (fun i hi => (hz.2.2.1 i hi).1.1) (e8 6 (by decide)) (by funext y; rw [up_n (by decide), a2 824 (by decide)]) (fun z _ _ _ => rr_at e20), ⟨by rw [up_s, if_pos rfl]; rfl, fun _ => ⟨RR_c b1.1 hz.1.1 hk, b1.2.1.cp (fun z z1 z2 _ => hk z z1 z2) SP.rf, b1.2.2.1.cp (fun z z1 z2 _ => hk z z1 z2) SP.rf⟩⟩, RD0_k b4 (e8 17 (by decide)) (by funext y; rw [up_n (by decide), a2 827 (by decide)]), by rw [e8 25 (by decide)]; exact b5⟩, fun b hb => ?_⟩
  · rw [q127_0, i_0, a1, kb0, q127_16, i_1, rk1]
  · funext y
    rw [up_n (by omega), a2 b (by omega), up_n (by omega)]
theorem R_back_n (h : RWx M A n Q false I s D f) (hz : ZW T A n Q false I s D f) : ∃ M', ev true 128 0 0 [pR 13 819] [] M X = some (.inl (some (pI (bI false))), M', X) ∧ RWx M' A n Q false I s D f ∧ ∀ b, b < 819 → M' b = M b := by
  have e5 : upM M 819 7 (ii 0) 819 5 = bI false := by rw [up_d (by decide)]; exact h.2.2.1.1
  refine ⟨upM M 819 7 (ii 0), ?_, h.up hz (by decide) (by decide) (by decide) (by decide) (by decide), fun b hb => by funext y; exact up_n (by omega)⟩
  rw [q128_0, i_0, e5, bIT, cond_false, rk0]
  rfl
theorem R_back_y (h : RWx M A n Q true I s D f) (hz : ZW T A n Q true I s D f) : ∃ M', ev true 128 0 0 [pR 13 819] [] M X = some (.inl (some (pI (bI true))), M', X) ∧ RWx M' I 0 Q true I s D f ∧ ∀ b, b < 819 → M' b = M b := by
  have h1 := h.up (j := 7) (v := ii 0) hz (by decide) (by decide) (by decide) (by decide) (by decide)
  obtain ⟨M1, a1, a2, a3⟩ := S38 (M := upM M 819 7 (ii 0)) (X := X) ln820 ln823 (show (820 : Nat) ≠ 823 by decide)
  obtain ⟨b1, b2, b3, b4, b5⟩ := h1
  obtain ⟨i1, i2, i3⟩ := b3.2 rfl
  have pi := hz.2.2.2.1 rfl
  have hk : ∀ z : Int, 0 ≤ z → z < 1434 → rr (upM M1 819 6 (ii 0)) z = rr (vw (upM M 819 7 (ii 0)) 823 0) z := fun z z1 z2 => by
    rw [rr_vw z1, Nat.zero_add]
    unfold rr
    rw [up_n (by decide), a3, if_pos (by omega)]
  have e8 : ∀ j, j ≠ 6 → upM M1 819 6 (ii 0) 819 j = upM M 819 7 (ii 0) 819 j := fun j hj => by rw [up_d hj, a2 819 (by decide)]
  have e5 : upM M 819 7 (ii 0) 819 5 = bI true := b3.1
  refine ⟨upM M1 819 6 (ii 0), ?_, ⟨⟨RR_c i1 pi.1 hk, i2.cp (fun z z1 z2 _ => hk z z1 z2) SP.rf, i3.cp (fun z z1 z2 _ => hk z z1 z2) SP.rf, by rw [e8 8 (by decide)]; exact b1.2.2.2⟩, ⟨by rw [up_s, if_pos rfl]; rfl, by omega, fun i hi => absurd hi (by omega)⟩, RI_k b3 (fun _ => pi.1) (e8 5 (by decide)) (by funext y; rw [up_n (by decide), a2 823 (by decide)]), RD0_k b4 (e8 17 (by decide)) (by funext y; rw [up_n (by decide), a2 827 (by decide)]), by rw [e8 25 (by decide)]; exact b5⟩, fun b hb => ?_⟩
  · rw [q128_0, i_0, e5, bIT, cond_true, a1, kb0, q128_25, i_0, i_1, rk1]
    rfl
  · funext y
    rw [up_n (by omega), a2 b (by omega), up_n (by omega)]
end RCA
