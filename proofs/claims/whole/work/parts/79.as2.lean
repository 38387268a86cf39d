/-! the calls that ask, further: both sides -/
section ASK2
set_option maxRecDepth 100000
variable {u p v l g : Nat} {j q e w c T T' tu tv nx off sh i z y N t x a b d : Int} {A B C I I' A' B' : AT} {M M' M0 : Mem} {X : PX} {L : Bool} {n s m : Nat} {Q Q' : Nat → AT} {k : Bool} {D : Nat → Int} {f : Int}
theorem P_waiting_y (hz : ZW T A n Q k I s D f) (hT : T < 1000000)  (hc : (0 ≤ a ∧ a < A 0 3) ∧ (0 ≤ b ∧ b < A 44 a)) : ∃ v : Int32, cA (fun M => CW M A n Q k I s D f) (fun M => CW M A n Q k I s D f) 138 [pR 1 0, pI (ii a), pI (ii b)] v ∧ rA (fun M => RWx M A n Q k I s D f) (fun M => RWx M A n Q k I s D f) 179 [pR 13 819, pI (ii a), pI (ii b)] v 0 := by
  have hi := hz.1.1
  have g := hi.1
  refine ⟨ii (A 60 (20 * a + b)), fun M X h => ?_, fun M X h => ?_⟩
  · skip
    have hs := h.1.2.1
    have hp := h.1.1
    obtain ⟨s1, ⟨tu, s2⟩, s3, ⟨nx9, s4⟩, s5, s6, s7, s8, s9, s10, s11, s12, s13, s14, s15, s16, s17⟩ := h.1.2.1
    obtain ⟨p1, p2, p3, p4, p5, p6, p7, p8, p9, p10, p11, p12, p13, p14, p15, p16, p17⟩ := h.1.1
    obtain ⟨l0, l1, l2, l3, l4, l5, l6, l7, l8, l9, l10, l11, l12, l13, l14, l15, l16, l17⟩ := stl83
    obtain ⟨m1, m2, m3, m4, m5, m6, m7, m8, m9, m10, m11, m12, m13, m14, m15, m16⟩ := pll49
    obtain ⟨d1, d2, d3, d4, d5, d6, d7, d8, d9, d10, -⟩ := hi.2.2.2.1 a hc.1.1 hc.1.2
    refine ⟨M, ?_, h, fun _ _ => rfl⟩
    rw [q138_0, p4, S1 (b32 (by omega)) (by omega), kt1, q138_11, i_0, bIT, decide_eq_true hc.1, cond_true, S12 (t := 102) hc.1.1 (by have e9 : rl 102 = 6 := l3; omega), kt1, show cl M 102 a = ii (A 44 a) from (s3 a hc.1.1 (by omega)).2.2.1, q138_29, S1 (b32 (by omega)) (by omega), kt1, q138_32, i_0, bIT, decide_eq_true hc.2, cond_true, show ev true 93 0 0 [pR 10 97, pI (ii a), pI (ii b)] [] M X = _ from S93 s3 ⟨l1, l2, l3⟩ hc.1.1 (by omega) hc.2.1 hc.2.2, kt1, q138_55]
  · skip
    have hr : RR (upM M 819 7 (ii 0)) A := RR_k h.1.1 (by funext y; exact up_n (by decide))
    have hw : WR (upM M 819 7 (ii 0)) A T := ⟨hr, hi, by omega, hz.1.2.1⟩
    obtain ⟨d1, d2, d3, d4, d5, d6, d7, d8, d9, d10, -⟩ := hi.2.2.2.1 a hc.1.1 hc.1.2
    refine ⟨upM M 819 7 (ii 0), ?_, h.u7 hz, fr7, st7⟩
    rw [q179_0, i_0, S116 hr hi (b32 (by omega)), kb1, q179_10, i_0, bIT, decide_eq_true hc.1, cond_true, i_4, S25 (by omega), kb1, (hr.2.2.2.1 a hc.1.1 (by omega)).2.2.2.2.1, q179_21, i_1, ii_sub, S28 (b32 (by omega)) (b32 (by omega)) (by unfold B32; omega), kb1, q179_26, i_0, bIT, decide_eq_true (by omega), cond_true, S26, kb1, q179_45, inR (by omega), rr_i (upM M 819 7 (ii 0)) (by omega), (hr.2.2.2.2.2.2.2.1 a b hc.1.1 (by omega) hc.2.1 hc.2.2).1]
theorem P_waiting_n (hz : ZW T A n Q k I s D f) (hT : T < 1000000) (ha : B32 a) (hb : B32 b) (hc : ¬ ((0 ≤ a ∧ a < A 0 3) ∧ (0 ≤ b ∧ b < A 44 a))) : cT (fun M => CW M A n Q k I s D f) 138 [pR 1 0, pI (ii a), pI (ii b)] 1 ∧ rA (fun M => RWx M A n Q k I s D f) (fun M => RWx M A n Q k I s D f) 179 [pR 13 819, pI (ii a), pI (ii b)] (ii 0) 1 := by
  have hi := hz.1.1
  have g := hi.1
  refine ⟨fun M X h hX => ?_, fun M X h => ⟨upM (upM M 819 7 (ii 0)) 819 7 (ii 1), ?_, (h.u7 hz).u7 hz, fun y hy => by rw [fr7 y hy, fr7 y hy], st7⟩⟩
  · skip
    have hs := h.1.2.1
    have hp := h.1.1
    obtain ⟨s1, ⟨tu, s2⟩, s3, ⟨nx9, s4⟩, s5, s6, s7, s8, s9, s10, s11, s12, s13, s14, s15, s16, s17⟩ := h.1.2.1
    obtain ⟨p1, p2, p3, p4, p5, p6, p7, p8, p9, p10, p11, p12, p13, p14, p15, p16, p17⟩ := h.1.1
    obtain ⟨l0, l1, l2, l3, l4, l5, l6, l7, l8, l9, l10, l11, l12, l13, l14, l15, l16, l17⟩ := stl83
    obtain ⟨m1, m2, m3, m4, m5, m6, m7, m8, m9, m10, m11, m12, m13, m14, m15, m16⟩ := pll49
    rw [q138_0, p4, S1 ha (by omega), kt1, q138_11, i_0, bIT]
    by_cases c1 : 0 ≤ a ∧ a < A 0 3
    · obtain ⟨d1, d2, d3, d4, d5, d6, d7, d8, d9, d10, -⟩ := hi.2.2.2.1 a c1.1 c1.2
      rw [decide_eq_true c1, cond_true, S12 (t := 102) c1.1 (by have e9 : rl 102 = 6 := l3; omega), kt1, show cl M 102 a = ii (A 44 a) from (s3 a c1.1 (by omega)).2.2.1, q138_29, S1 hb (by omega), kt1, q138_32, i_0, bIT, decide_eq_false (by omega), cond_false, q138_35, thT hX (by decide) (by decide)]
    · rw [decide_eq_false c1, cond_false, q138_35, thT hX (by decide) (by decide)]
  · skip
    have hr : RR (upM M 819 7 (ii 0)) A := RR_k h.1.1 (by funext y; exact up_n (by decide))
    have hw : WR (upM M 819 7 (ii 0)) A T := ⟨hr, hi, by omega, hz.1.2.1⟩
    have fin : ∀ z1 z2, ev true 179 0 29 [pR 13 819, z1, z2] [] (upM M 819 7 (ii 0)) X = some (.inl (some (pI (ii 0))), upM (upM M 819 7 (ii 0)) 819 7 (ii 1), X) := fun z1 z2 => by rw [q179_29, i_1, S27, kb1, q179_34]
    rw [q179_0, i_0, S116 hr hi ha, kb1, q179_10, i_0, bIT]
    by_cases c1 : 0 ≤ a ∧ a < A 0 3
    · obtain ⟨d1, d2, d3, d4, d5, d6, d7, d8, d9, d10, -⟩ := hi.2.2.2.1 a c1.1 c1.2
      rw [decide_eq_true c1, cond_true, i_4, S25 (by omega), kb1, (hr.2.2.2.1 a c1.1 (by omega)).2.2.2.2.1, q179_21, i_1, ii_sub, S28 hb (b32 (by omega)) (by unfold B32; omega), kb1, q179_26, i_0, bIT, decide_eq_false (by omega), cond_false, fin]
    · rw [decide_eq_false c1, cond_false, fin]
theorem P_coming_y (hz : ZW T A n Q k I s D f) (hT : T < 1000000)  (hc : (0 ≤ a ∧ a < A 0 4) ∧ (0 ≤ b ∧ b < 5)) : ∃ v : Int32, cA (fun M => CW M A n Q k I s D f) (fun M => CW M A n Q k I s D f) 139 [pR 1 0, pI (ii a), pI (ii b)] v ∧ rA (fun M => RWx M A n Q k I s D f) (fun M => RWx M A n Q k I s D f) 180 [pR 13 819, pI (ii a), pI (ii b)] v 0 := by
  have hi := hz.1.1
  have g := hi.1
  rcases (by omega : b = 0 ∨ b = 1 ∨ b = 2 ∨ b = 3 ∨ b = 4) with rfl | rfl | rfl | rfl | rfl
  · refine ⟨ii (A 50 a), fun M X h => ?_, fun M X h => ?_⟩
    · skip
      have hs := h.1.2.1
      have hp := h.1.1
      obtain ⟨s1, ⟨tu, s2⟩, s3, ⟨nx9, s4⟩, s5, s6, s7, s8, s9, s10, s11, s12, s13, s14, s15, s16, s17⟩ := h.1.2.1
      obtain ⟨p1, p2, p3, p4, p5, p6, p7, p8, p9, p10, p11, p12, p13, p14, p15, p16, p17⟩ := h.1.1
      obtain ⟨l0, l1, l2, l3, l4, l5, l6, l7, l8, l9, l10, l11, l12, l13, l14, l15, l16, l17⟩ := stl83
      obtain ⟨m1, m2, m3, m4, m5, m6, m7, m8, m9, m10, m11, m12, m13, m14, m15, m16⟩ := pll49
      refine ⟨M, ?_, h, fun _ _ => rfl⟩
      rw [q139_0, p5, S1 (b32 (by omega)) (by omega), kt1, q139_11, i_0, bIT, decide_eq_true hc.1, cond_true, eqT rfl, S12 (t := 66) hc.1.1 (by have e9 : rl 66 = 12 := m9; omega), kt1, p12 a hc.1.1 hc.1.2, q139_67]
    · skip
      have hr : RR (upM M 819 7 (ii 0)) A := RR_k h.1.1 (by funext y; exact up_n (by decide))
      have hw : WR (upM M 819 7 (ii 0)) A T := ⟨hr, hi, by omega, hz.1.2.1⟩
      refine ⟨upM M 819 7 (ii 0), ?_, h.u7 hz, fr7, st7⟩
      rw [q180_0, i_4, inR (by omega), i_0, i_1, show upM M 819 7 (ii 0) 820 4 = ii (A 0 4) from hr.1 4 (by omega) (by omega), ii_sub, S28 (b32 (by omega)) (b32 (by omega)) (by unfold B32; omega), kb1, q180_18, i_0, bIT, decide_eq_true (by omega), cond_true, i_4, S28 (b32 (by omega)) (b32 (by omega)) (b32 (by omega)), kb1, q180_27, i_0, bIT, decide_eq_true (by omega), cond_true, i_4, eqF (by omega), S34 (by omega), kb1, (hr.2.2.2.2.1 a hc.1.1 (by omega)).1, q180_55]
  · refine ⟨ii (A 51 a), fun M X h => ?_, fun M X h => ?_⟩
    · skip
      have hs := h.1.2.1
      have hp := h.1.1
      obtain ⟨s1, ⟨tu, s2⟩, s3, ⟨nx9, s4⟩, s5, s6, s7, s8, s9, s10, s11, s12, s13, s14, s15, s16, s17⟩ := h.1.2.1
      obtain ⟨p1, p2, p3, p4, p5, p6, p7, p8, p9, p10, p11, p12, p13, p14, p15, p16, p17⟩ := h.1.1
      obtain ⟨l0, l1, l2, l3, l4, l5, l6, l7, l8, l9, l10, l11, l12, l13, l14, l15, l16, l17⟩ := stl83
      obtain ⟨m1, m2, m3, m4, m5, m6, m7, m8, m9, m10, m11, m12, m13, m14, m15, m16⟩ := pll49
      refine ⟨M, ?_, h, fun _ _ => rfl⟩
      rw [q139_0, p5, S1 (b32 (by omega)) (by omega), kt1, q139_11, i_0, bIT, decide_eq_true hc.1, cond_true, eqF (by omega), i_1, eqT rfl, S12 (t := 68) hc.1.1 (by have e9 : rl 68 = 12 := m10; omega), kt1, p13 a hc.1.1 hc.1.2, q139_79]
    · skip
      have hr : RR (upM M 819 7 (ii 0)) A := RR_k h.1.1 (by funext y; exact up_n (by decide))
      have hw : WR (upM M 819 7 (ii 0)) A T := ⟨hr, hi, by omega, hz.1.2.1⟩
      refine ⟨upM M 819 7 (ii 0), ?_, h.u7 hz, fr7, st7⟩
      rw [q180_0, i_4, inR (by omega), i_0, i_1, show upM M 819 7 (ii 0) 820 4 = ii (A 0 4) from hr.1 4 (by omega) (by omega), ii_sub, S28 (b32 (by omega)) (b32 (by omega)) (by unfold B32; omega), kb1, q180_18, i_0, bIT, decide_eq_true (by omega), cond_true, i_4, S28 (b32 (by omega)) (b32 (by omega)) (b32 (by omega)), kb1, q180_27, i_0, bIT, decide_eq_true (by omega), cond_true, i_4, eqF (by omega), S34 (by omega), kb1, (hr.2.2.2.2.1 a hc.1.1 (by omega)).2.1, q180_55]
  · refine ⟨ii (A 52 a), fun M X h => ?_, fun M X h => ?_⟩
    · skip
      have hs := h.1.2.1
      have hp := h.1.1
      obtain ⟨s1, ⟨tu, s2⟩, s3, ⟨nx9, s4⟩, s5, s6, s7, s8, s9, s10, s11, s12, s13, s14, s15, s16, s17⟩ := h.1.2.1
      obtain ⟨p1, p2, p3, p4, p5, p6, p7, p8, p9, p10, p11, p12, p13, p14, p15, p16, p17⟩ := h.1.1
      obtain ⟨l0, l1, l2, l3, l4, l5, l6, l7, l8, l9, l10, l11, l12, l13, l14, l15, l16, l17⟩ := stl83
      obtain ⟨m1, m2, m3, m4, m5, m6, m7, m8, m9, m10, m11, m12, m13, m14, m15, m16⟩ := pll49
      refine ⟨M, ?_, h, fun _ _ => rfl⟩
      rw [q139_0, p5, S1 (b32 (by omega)) (by omega), kt1, q139_11, i_0, bIT, decide_eq_true hc.1, cond_true, eqF (by omega), i_1, eqF (by omega), i_2, eqT rfl, S12 (t := 70) hc.1.1 (by have e9 : rl 70 = 12 := m11; omega), kt1, p14 a hc.1.1 hc.1.2, q139_91]
    · skip
      have hr : RR (upM M 819 7 (ii 0)) A := RR_k h.1.1 (by funext y; exact up_n (by decide))
      have hw : WR (upM M 819 7 (ii 0)) A T := ⟨hr, hi, by omega, hz.1.2.1⟩
      refine ⟨upM M 819 7 (ii 0), ?_, h.u7 hz, fr7, st7⟩
      rw [q180_0, i_4, inR (by omega), i_0, i_1, show upM M 819 7 (ii 0) 820 4 = ii (A 0 4) from hr.1 4 (by omega) (by omega), ii_sub, S28 (b32 (by omega)) (b32 (by omega)) (by unfold B32; omega), kb1, q180_18, i_0, bIT, decide_eq_true (by omega), cond_true, i_4, S28 (b32 (by omega)) (b32 (by omega)) (b32 (by omega)), kb1, q180_27, i_0, bIT, decide_eq_true (by omega), cond_true, i_4, eqF (by omega), S34 (by omega), kb1, (hr.2.2.2.2.1 a hc.1.1 (by omega)).2.2.1, q180_55]
  · refine ⟨ii (A 53 a), fun M X h => ?_, fun M X h => ?_⟩
    · skip
      have hs := h.1.2.1
      have hp := h.1.1
      obtain ⟨s1, ⟨tu, s2⟩, s3, ⟨nx9, s4⟩, s5, s6, s7, s8, s9, s10, s11, s12, s13, s14, s15, s16, s17⟩ := h.1.2.1
      obtain ⟨p1, p2, p3, p4, p5, p6, p7, p8, p9, p10, p11, p12, p13, p14, p15, p16, p17⟩ := h.1.1
      obtain ⟨l0, l1, l2, l3, l4, l5, l6, l7, l8, l9, l10, l11, l12, l13, l14, l15, l16, l17⟩ := stl83
      obtain ⟨m1, m2, m3, m4, m5, m6, m7, m8, m9, m10, m11, m12, m13, m14, m15, m16⟩ := pll49
      refine ⟨M, ?_, h, fun _ _ => rfl⟩
      rw [q139_0, p5, S1 (b32 (by omega)) (by omega), kt1, q139_11, i_0, bIT, decide_eq_true hc.1, cond_true, eqF (by omega), i_1, eqF (by omega), i_2, eqF (by omega), i_3, eqT rfl, S12 (t := 72) hc.1.1 (by have e9 : rl 72 = 12 := m12; omega), kt1, p15 a hc.1.1 hc.1.2, q139_103]
    · skip
      have hr : RR (upM M 819 7 (ii 0)) A := RR_k h.1.1 (by funext y; exact up_n (by decide))
      have hw : WR (upM M 819 7 (ii 0)) A T := ⟨hr, hi, by omega, hz.1.2.1⟩
      refine ⟨upM M 819 7 (ii 0), ?_, h.u7 hz, fr7, st7⟩
      rw [q180_0, i_4, inR (by omega), i_0, i_1, show upM M 819 7 (ii 0) 820 4 = ii (A 0 4) from hr.1 4 (by omega) (by omega), ii_sub, S28 (b32 (by omega)) (b32 (by omega)) (by unfold B32; omega), kb1, q180_18, i_0, bIT, decide_eq_true (by omega), cond_true, i_4, S28 (b32 (by omega)) (b32 (by omega)) (b32 (by omega)), kb1, q180_27, i_0, bIT, decide_eq_true (by omega), cond_true, i_4, eqF (by omega), S34 (by omega), kb1, (hr.2.2.2.2.1 a hc.1.1 (by omega)).2.2.2, q180_55]
  · refine ⟨ii (dueA A a), fun M X h => ?_, fun M X h => ?_⟩
    · skip
      have hs := h.1.2.1
      have hp := h.1.1
      obtain ⟨s1, ⟨tu, s2⟩, s3, ⟨nx9, s4⟩, s5, s6, s7, s8, s9, s10, s11, s12, s13, s14, s15, s16, s17⟩ := h.1.2.1
      obtain ⟨p1, p2, p3, p4, p5, p6, p7, p8, p9, p10, p11, p12, p13, p14, p15, p16, p17⟩ := h.1.1
      obtain ⟨l0, l1, l2, l3, l4, l5, l6, l7, l8, l9, l10, l11, l12, l13, l14, l15, l16, l17⟩ := stl83
      obtain ⟨m1, m2, m3, m4, m5, m6, m7, m8, m9, m10, m11, m12, m13, m14, m15, m16⟩ := pll49
      refine ⟨M, ?_, h, fun _ _ => rfl⟩
      rw [q139_0, p5, S1 (b32 (by omega)) (by omega), kt1, q139_11, i_0, bIT, decide_eq_true hc.1, cond_true, eqF (by omega), i_1, eqF (by omega), i_2, eqF (by omega), i_3, eqF (by omega), i_4, eqT rfl, s1, S65 hp pll49 hi hT hc.1.1 hc.1.2, kt1, q139_119]
    · skip
      have hr : RR (upM M 819 7 (ii 0)) A := RR_k h.1.1 (by funext y; exact up_n (by decide))
      have hw : WR (upM M 819 7 (ii 0)) A T := ⟨hr, hi, by omega, hz.1.2.1⟩
      refine ⟨upM M 819 7 (ii 0), ?_, h.u7 hz, fr7, st7⟩
      rw [q180_0, i_4, inR (by omega), i_0, i_1, show upM M 819 7 (ii 0) 820 4 = ii (A 0 4) from hr.1 4 (by omega) (by omega), ii_sub, S28 (b32 (by omega)) (b32 (by omega)) (by unfold B32; omega), kb1, q180_18, i_0, bIT, decide_eq_true (by omega), cond_true, i_4, S28 (b32 (by omega)) (b32 (by omega)) (b32 (by omega)), kb1, q180_27, i_0, bIT, decide_eq_true (by omega), cond_true, i_4, eqT rfl, S120 hw hc.1.1 hc.1.2, kb1, q180_46, q180_55]
theorem P_coming_n (hz : ZW T A n Q k I s D f) (hT : T < 1000000) (ha : B32 a) (hb : B32 b) (hc : ¬ ((0 ≤ a ∧ a < A 0 4) ∧ (0 ≤ b ∧ b < 5))) : cT (fun M => CW M A n Q k I s D f) 139 [pR 1 0, pI (ii a), pI (ii b)] 1 ∧ rA (fun M => RWx M A n Q k I s D f) (fun M => RWx M A n Q k I s D f) 180 [pR 13 819, pI (ii a), pI (ii b)] (ii 0) 1 := by
  have hi := hz.1.1
  have g := hi.1
  refine ⟨fun M X h hX => ?_, fun M X h => ⟨upM (upM M 819 7 (ii 0)) 819 7 (ii 1), ?_, (h.u7 hz).u7 hz, fun y hy => by rw [fr7 y hy, fr7 y hy], st7⟩⟩
  · skip
    have hs := h.1.2.1
    have hp := h.1.1
    obtain ⟨s1, ⟨tu, s2⟩, s3, ⟨nx9, s4⟩, s5, s6, s7, s8, s9, s10, s11, s12, s13, s14, s15, s16, s17⟩ := h.1.2.1
    obtain ⟨p1, p2, p3, p4, p5, p6, p7, p8, p9, p10, p11, p12, p13, p14, p15, p16, p17⟩ := h.1.1
    obtain ⟨l0, l1, l2, l3, l4, l5, l6, l7, l8, l9, l10, l11, l12, l13, l14, l15, l16, l17⟩ := stl83
    obtain ⟨m1, m2, m3, m4, m5, m6, m7, m8, m9, m10, m11, m12, m13, m14, m15, m16⟩ := pll49
    rw [q139_0, p5, S1 ha (by omega), kt1, q139_11, i_0, bIT]
    by_cases c1 : 0 ≤ a ∧ a < A 0 4
    · obtain ⟨b1, b2⟩ := hb
      rw [decide_eq_true c1, cond_true, eqF (by omega), i_1, eqF (by omega), i_2, eqF (by omega), i_3, eqF (by omega), i_4, eqF (by omega), thT hX (by decide) (by decide)]
    · rw [decide_eq_false c1, cond_false, thT hX (by decide) (by decide)]
  · skip
    have hr : RR (upM M 819 7 (ii 0)) A := RR_k h.1.1 (by funext y; exact up_n (by decide))
    have hw : WR (upM M 819 7 (ii 0)) A T := ⟨hr, hi, by omega, hz.1.2.1⟩
    have fin : ∀ z1 z2, ev true 180 0 30 [pR 13 819, z1, z2] [] (upM M 819 7 (ii 0)) X = some (.inl (some (pI (ii 0))), upM (upM M 819 7 (ii 0)) 819 7 (ii 1), X) := fun z1 z2 => by rw [q180_30, i_1, S27, kb1, q180_35]
    rw [q180_0, i_4, inR (by omega), i_0, i_1, show upM M 819 7 (ii 0) 820 4 = ii (A 0 4) from hr.1 4 (by omega) (by omega), ii_sub, S28 ha (b32 (by omega)) (by unfold B32; omega), kb1, q180_18, i_0, bIT]
    by_cases c1 : 0 ≤ a ∧ a < A 0 4
    · rw [decide_eq_true (by omega), cond_true, i_4, S28 hb (b32 (by omega)) (b32 (by omega)), kb1, q180_27, i_0, bIT, decide_eq_false (by omega), cond_false, fin]
    · rw [decide_eq_false (by omega), cond_false, fin]
theorem P_log_y (hz : ZW T A n Q k I s D f) (hT : T < 1000000)  (hc : (0 ≤ a ∧ a < A 0 8) ∧ (0 ≤ b ∧ b < 7)) : ∃ v : Int32, cA (fun M => CW M A n Q k I s D f) (fun M => CW M A n Q k I s D f) 140 [pR 1 0, pI (ii a), pI (ii b)] v ∧ rA (fun M => RWx M A n Q k I s D f) (fun M => RWx M A n Q k I s D f) 121 [pR 13 819, pI (ii a), pI (ii b)] v 0 := by
  have hi := hz.1.1
  have g := hi.1
  refine ⟨ii (A 70 (7 * a + b)), fun M X h => ?_, fun M X h => ?_⟩
  · skip
    have hs := h.1.2.1
    have hp := h.1.1
    obtain ⟨s1, ⟨tu, s2⟩, s3, ⟨nx9, s4⟩, s5, s6, s7, s8, s9, s10, s11, s12, s13, s14, s15, s16, s17⟩ := h.1.2.1
    obtain ⟨p1, p2, p3, p4, p5, p6, p7, p8, p9, p10, p11, p12, p13, p14, p15, p16, p17⟩ := h.1.1
    obtain ⟨l0, l1, l2, l3, l4, l5, l6, l7, l8, l9, l10, l11, l12, l13, l14, l15, l16, l17⟩ := stl83
    obtain ⟨m1, m2, m3, m4, m5, m6, m7, m8, m9, m10, m11, m12, m13, m14, m15, m16⟩ := pll49
    refine ⟨M, ?_, h, fun _ _ => rfl⟩
    rw [q140_0, s4.2.2.2.1, S1 (b32 (by omega)) (by omega), kt1, q140_14, i_0, bIT, decide_eq_true hc.1, cond_true, i_7, S1 (b32 (by omega)) (by omega), kt1, q140_23, i_0, bIT, decide_eq_true hc.2, cond_true, show ev true 97 0 0 [pR 11 130, pI (ii a), pI (ii b), p0] [] M X = _ from S97 hs stl83 hc.1.1 hc.1.2 hc.2.1 hc.2.2, kt1, q140_46]
  · skip
    have hr : RR (upM M 819 7 (ii 0)) A := RR_k h.1.1 (by funext y; exact up_n (by decide))
    have hw : WR (upM M 819 7 (ii 0)) A T := ⟨hr, hi, by omega, hz.1.2.1⟩
    refine ⟨upM M 819 7 (ii 0), ?_, h.u7 hz, fr7, st7⟩
    rw [q121_0, i_8, inR (by omega), i_0, i_1, show upM M 819 7 (ii 0) 820 8 = ii (A 0 8) from hr.1 8 (by omega) (by omega), ii_sub, S28 (b32 (by omega)) (b32 (by omega)) (by unfold B32; omega), kb1, q121_19, i_0, bIT, decide_eq_true (by omega), cond_true, i_6, S28 (b32 (by omega)) (b32 (by omega)) (b32 (by omega)), kb1, q121_29, i_0, bIT, decide_eq_true (by omega), cond_true, i_654, i_7, ii_mul, ii_add, ii_add, inR (by omega), rr_i (upM M 819 7 (ii 0)) (by omega), hr.2.2.2.2.2.2.2.2 a b hc.1.1 hc.1.2 hc.2.1 hc.2.2]
theorem P_log_n (hz : ZW T A n Q k I s D f) (hT : T < 1000000) (ha : B32 a) (hb : B32 b) (hc : ¬ ((0 ≤ a ∧ a < A 0 8) ∧ (0 ≤ b ∧ b < 7))) : cT (fun M => CW M A n Q k I s D f) 140 [pR 1 0, pI (ii a), pI (ii b)] 1 ∧ rA (fun M => RWx M A n Q k I s D f) (fun M => RWx M A n Q k I s D f) 121 [pR 13 819, pI (ii a), pI (ii b)] (ii 0) 1 := by
  have hi := hz.1.1
  have g := hi.1
  refine ⟨fun M X h hX => ?_, fun M X h => ⟨upM (upM M 819 7 (ii 0)) 819 7 (ii 1), ?_, (h.u7 hz).u7 hz, fun y hy => by rw [fr7 y hy, fr7 y hy], st7⟩⟩
  · skip
    have hs := h.1.2.1
    have hp := h.1.1
    obtain ⟨s1, ⟨tu, s2⟩, s3, ⟨nx9, s4⟩, s5, s6, s7, s8, s9, s10, s11, s12, s13, s14, s15, s16, s17⟩ := h.1.2.1
    obtain ⟨p1, p2, p3, p4, p5, p6, p7, p8, p9, p10, p11, p12, p13, p14, p15, p16, p17⟩ := h.1.1
    obtain ⟨l0, l1, l2, l3, l4, l5, l6, l7, l8, l9, l10, l11, l12, l13, l14, l15, l16, l17⟩ := stl83
    obtain ⟨m1, m2, m3, m4, m5, m6, m7, m8, m9, m10, m11, m12, m13, m14, m15, m16⟩ := pll49
    rw [q140_0, s4.2.2.2.1, S1 ha (by omega), kt1, q140_14, i_0, bIT]
    by_cases c1 : 0 ≤ a ∧ a < A 0 8
    · rw [decide_eq_true c1, cond_true, i_7, S1 hb (by omega), kt1, q140_23, i_0, bIT, decide_eq_false (by omega), cond_false, q140_26, thT hX (by decide) (by decide)]
    · rw [decide_eq_false c1, cond_false, q140_26, thT hX (by decide) (by decide)]
  · skip
    have hr : RR (upM M 819 7 (ii 0)) A := RR_k h.1.1 (by funext y; exact up_n (by decide))
    have hw : WR (upM M 819 7 (ii 0)) A T := ⟨hr, hi, by omega, hz.1.2.1⟩
    have fin : ∀ z1 z2, ev true 121 0 32 [pR 13 819, z1, z2] [] (upM M 819 7 (ii 0)) X = some (.inl (some (pI (ii 0))), upM (upM M 819 7 (ii 0)) 819 7 (ii 1), X) := fun z1 z2 => by rw [q121_32, i_1, S27, kb1, q121_37]
    rw [q121_0, i_8, inR (by omega), i_0, i_1, show upM M 819 7 (ii 0) 820 8 = ii (A 0 8) from hr.1 8 (by omega) (by omega), ii_sub, S28 ha (b32 (by omega)) (by unfold B32; omega), kb1, q121_19, i_0, bIT]
    by_cases c1 : 0 ≤ a ∧ a < A 0 8
    · rw [decide_eq_true (by omega), cond_true, i_6, S28 hb (b32 (by omega)) (b32 (by omega)), kb1, q121_29, i_0, bIT, decide_eq_false (by omega), cond_false, fin]
    · rw [decide_eq_false (by omega), cond_false, fin]
theorem P_fault (hz : ZW T A n Q k I s D f) : cA (fun M => CW M A n Q k I s D f) (fun M => CW M A n Q k I s D f) 0 [pR 1 0] (ii f) ∧ rA (fun M => RWx M A n Q k I s D f) (fun M => RWx M A n Q k I s D f) 44 [pR 13 819] (ii f) 0 := by
  refine ⟨fun M X h => ⟨M, ?_, h, fun _ _ => rfl⟩, fun M X h => ⟨upM M 819 7 (ii 0), ?_, h.u7 hz, fr7, st7⟩⟩
  · rw [q0_0, h.2.2.2.2]
  · rw [q44_0, i_0, up_d (by decide), h.2.2.2.2]
end ASK2
