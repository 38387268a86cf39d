/-! the calls that ask: both sides -/
section ASK
set_option maxRecDepth 100000
variable {u p v l g : Nat} {j q e w c T T' tu tv nx off sh i z y N t x a b d : Int} {A B C I I' A' B' : AT} {M M' M0 : Mem} {X : PX} {L : Bool} {n s m : Nat} {Q Q' : Nat → AT} {k : Bool} {D : Nat → Int} {f : Int}
/-- the class answers; throws; the reference answers -/
def cA (P P' : Mem → Prop) (m : Nat) (as : List PV) (v : Int32) : Prop := ∀ M X, P M → ∃ M', ev true m 0 0 as [] M X = some (.inl (some (pI v)), M', X) ∧ P' M' ∧ ∀ b, 819 ≤ b → M' b = M b
def cT (P : Mem → Prop) (m : Nat) (as : List PV) (e : Nat) : Prop := ∀ M X, P M → XZ X → ev true m 0 0 as [] M X = some (.inr e, M, thX X)
def rA (P P' : Mem → Prop) (m : Nat) (as : List PV) (v : Int32) (c : Int) : Prop := ∀ M X, P M → ∃ M', ev true m 0 0 as [] M X = some (.inl (some (pI v)), M', X) ∧ P' M' ∧ (∀ b, b < 819 → M' b = M b) ∧ M' 819 7 = ii c
theorem smI_6 {F : Int → Int} {n : Nat} (hn : n ≤ 6) (h : ∀ j : Int, n ≤ j → j < 6 → F j = 0) : smI F n = s6 F := by
  have e6 : smI F 6 = s6 F := by
    show 0 + F 0 + F 1 + F 2 + F 3 + F 4 + F 5 = F 0 + F 1 + F 2 + F 3 + F 4 + F 5
    omega
  have key : ∀ m : Nat, n + m ≤ 6 → smI F (n + m) = smI F n := by
    intro m
    induction m with
    | zero => intro _; rfl
    | succ m ih =>
      intro hm
      show smI F (n + m) + F ((n + m : Nat) : Int) = smI F n
      rw [ih (by omega), h _ (by omega) (by omega)]
      omega
  have := key (6 - n) (by omega)
  rw [show n + (6 - n) = 6 by omega, e6] at this
  exact this.symm
theorem wr_s6 (hi : INV A T) : wrS A (-1) (A 0 3).toNat = s6 (A 44) := by
  have g := hi.1
  have b44 : ∀ j : Int, 0 ≤ j → j < A 0 3 → 0 ≤ A 44 j := fun j h1 h2 => by
    obtain ⟨-, -, -, -, -, -, -, -, b9, b10, -⟩ := hi.2.2.2.1 j h1 h2
    exact b9
  rw [wr_all _ (fun j h1 h2 => b44 j (by omega) (by omega))]
  exact smI_6 (by omega) (fun j h1 h2 => hi.2.2.2.2.1 j (by omega) h2)
theorem RWx.u7 {v : Int32} (h : RWx M A n Q k I s D f) (hz : ZW T A n Q k I s D f) : RWx (upM M 819 7 v) A n Q k I s D f := h.up hz (by decide) (by decide) (by decide) (by decide) (by decide)
theorem fr7 {v : Int32} : ∀ b, b < 819 → upM M 819 7 v b = M b := fun b hb => by funext y; exact up_n (by omega)
theorem st7 {v : Int32} : upM M 819 7 v 819 7 = v := by rw [up_s, if_pos rfl]
theorem P_count_y (hz : ZW T A n Q k I s D f) (hT : T < 1000000)  (hc : 0 ≤ b ∧ b < 16) : ∃ v : Int32, cA (fun M => CW M A n Q k I s D f) (fun M => CW M A n Q k I s D f) 137 [pR 1 0, pI (ii b)] v ∧ rA (fun M => RWx M A n Q k I s D f) (fun M => RWx M A n Q k I s D f) 174 [pR 13 819, pI (ii b)] v 0 := by
  have hi := hz.1.1
  have g := hi.1
  rcases (by omega : b = 0 ∨ b = 1 ∨ b = 2 ∨ b = 3 ∨ b = 4 ∨ b = 5 ∨ b = 6 ∨ b = 7 ∨ b = 8 ∨ b = 9 ∨ b = 10 ∨ b = 11 ∨ b = 12 ∨ b = 13 ∨ b = 14 ∨ b = 15) with rfl | rfl | rfl | rfl | rfl | rfl | rfl | rfl | rfl | rfl | rfl | rfl | rfl | rfl | rfl | rfl
  · refine ⟨ii (A 0 0), fun M X h => ?_, fun M X h => ?_⟩
    · skip
      have hs := h.1.2.1
      have hp := h.1.1
      obtain ⟨s1, ⟨tu, s2⟩, s3, ⟨nx9, s4⟩, s5, s6, s7, s8, s9, s10, s11, s12, s13, s14, s15, s16, s17⟩ := h.1.2.1
      obtain ⟨p1, p2, p3, p4, p5, p6, p7, p8, p9, p10, p11, p12, p13, p14, p15, p16, p17⟩ := h.1.1
      obtain ⟨l0, l1, l2, l3, l4, l5, l6, l7, l8, l9, l10, l11, l12, l13, l14, l15, l16, l17⟩ := stl83
      obtain ⟨m1, m2, m3, m4, m5, m6, m7, m8, m9, m10, m11, m12, m13, m14, m15, m16⟩ := pll49
      refine ⟨M, ?_, h, fun _ _ => rfl⟩
      rw [q137_0, i_0, eqT rfl, p1]
    · skip
      have hr : RR (upM M 819 7 (ii 0)) A := RR_k h.1.1 (by funext y; exact up_n (by decide))
      have hw : WR (upM M 819 7 (ii 0)) A T := ⟨hr, hi, by omega, hz.1.2.1⟩
      refine ⟨upM M 819 7 (ii 0), ?_, h.u7 hz, fr7, st7⟩
      rw [q174_0, i_0, ii_m1, eqT rfl, inR (by omega), rr_i (upM M 819 7 (ii 0)) (by omega), hr.1 0 (by omega) (by omega)]
  · refine ⟨ii (A 0 1), fun M X h => ?_, fun M X h => ?_⟩
    · skip
      have hs := h.1.2.1
      have hp := h.1.1
      obtain ⟨s1, ⟨tu, s2⟩, s3, ⟨nx9, s4⟩, s5, s6, s7, s8, s9, s10, s11, s12, s13, s14, s15, s16, s17⟩ := h.1.2.1
      obtain ⟨p1, p2, p3, p4, p5, p6, p7, p8, p9, p10, p11, p12, p13, p14, p15, p16, p17⟩ := h.1.1
      obtain ⟨l0, l1, l2, l3, l4, l5, l6, l7, l8, l9, l10, l11, l12, l13, l14, l15, l16, l17⟩ := stl83
      obtain ⟨m1, m2, m3, m4, m5, m6, m7, m8, m9, m10, m11, m12, m13, m14, m15, m16⟩ := pll49
      refine ⟨M, ?_, h, fun _ _ => rfl⟩
      rw [q137_0, i_0, eqF (by omega), i_1, eqT rfl, p2]
    · skip
      have hr : RR (upM M 819 7 (ii 0)) A := RR_k h.1.1 (by funext y; exact up_n (by decide))
      have hw : WR (upM M 819 7 (ii 0)) A T := ⟨hr, hi, by omega, hz.1.2.1⟩
      refine ⟨upM M 819 7 (ii 0), ?_, h.u7 hz, fr7, st7⟩
      rw [q174_0, i_0, ii_m1, eqF (by omega), i_1, eqT rfl, inR (by omega), rr_i (upM M 819 7 (ii 0)) (by omega), hr.1 1 (by omega) (by omega)]
  · refine ⟨ii (A 0 2), fun M X h => ?_, fun M X h => ?_⟩
    · skip
      have hs := h.1.2.1
      have hp := h.1.1
      obtain ⟨s1, ⟨tu, s2⟩, s3, ⟨nx9, s4⟩, s5, s6, s7, s8, s9, s10, s11, s12, s13, s14, s15, s16, s17⟩ := h.1.2.1
      obtain ⟨p1, p2, p3, p4, p5, p6, p7, p8, p9, p10, p11, p12, p13, p14, p15, p16, p17⟩ := h.1.1
      obtain ⟨l0, l1, l2, l3, l4, l5, l6, l7, l8, l9, l10, l11, l12, l13, l14, l15, l16, l17⟩ := stl83
      obtain ⟨m1, m2, m3, m4, m5, m6, m7, m8, m9, m10, m11, m12, m13, m14, m15, m16⟩ := pll49
      refine ⟨M, ?_, h, fun _ _ => rfl⟩
      rw [q137_0, i_0, eqF (by omega), i_1, eqF (by omega), i_2, eqT rfl, p3]
    · skip
      have hr : RR (upM M 819 7 (ii 0)) A := RR_k h.1.1 (by funext y; exact up_n (by decide))
      have hw : WR (upM M 819 7 (ii 0)) A T := ⟨hr, hi, by omega, hz.1.2.1⟩
      refine ⟨upM M 819 7 (ii 0), ?_, h.u7 hz, fr7, st7⟩
      rw [q174_0, i_0, ii_m1, eqF (by omega), i_1, eqF (by omega), i_2, eqT rfl, inR (by omega), rr_i (upM M 819 7 (ii 0)) (by omega), hr.1 2 (by omega) (by omega)]
  · refine ⟨ii (A 0 3), fun M X h => ?_, fun M X h => ?_⟩
    · skip
      have hs := h.1.2.1
      have hp := h.1.1
      obtain ⟨s1, ⟨tu, s2⟩, s3, ⟨nx9, s4⟩, s5, s6, s7, s8, s9, s10, s11, s12, s13, s14, s15, s16, s17⟩ := h.1.2.1
      obtain ⟨p1, p2, p3, p4, p5, p6, p7, p8, p9, p10, p11, p12, p13, p14, p15, p16, p17⟩ := h.1.1
      obtain ⟨l0, l1, l2, l3, l4, l5, l6, l7, l8, l9, l10, l11, l12, l13, l14, l15, l16, l17⟩ := stl83
      obtain ⟨m1, m2, m3, m4, m5, m6, m7, m8, m9, m10, m11, m12, m13, m14, m15, m16⟩ := pll49
      refine ⟨M, ?_, h, fun _ _ => rfl⟩
      rw [q137_0, i_0, eqF (by omega), i_1, eqF (by omega), i_2, eqF (by omega), i_3, eqT rfl, p4]
    · skip
      have hr : RR (upM M 819 7 (ii 0)) A := RR_k h.1.1 (by funext y; exact up_n (by decide))
      have hw : WR (upM M 819 7 (ii 0)) A T := ⟨hr, hi, by omega, hz.1.2.1⟩
      refine ⟨upM M 819 7 (ii 0), ?_, h.u7 hz, fr7, st7⟩
      rw [q174_0, i_0, ii_m1, eqF (by omega), i_1, eqF (by omega), i_2, eqF (by omega), i_3, eqT rfl, inR (by omega), rr_i (upM M 819 7 (ii 0)) (by omega), hr.1 3 (by omega) (by omega)]
  · refine ⟨ii (A 0 4), fun M X h => ?_, fun M X h => ?_⟩
    · skip
      have hs := h.1.2.1
      have hp := h.1.1
      obtain ⟨s1, ⟨tu, s2⟩, s3, ⟨nx9, s4⟩, s5, s6, s7, s8, s9, s10, s11, s12, s13, s14, s15, s16, s17⟩ := h.1.2.1
      obtain ⟨p1, p2, p3, p4, p5, p6, p7, p8, p9, p10, p11, p12, p13, p14, p15, p16, p17⟩ := h.1.1
      obtain ⟨l0, l1, l2, l3, l4, l5, l6, l7, l8, l9, l10, l11, l12, l13, l14, l15, l16, l17⟩ := stl83
      obtain ⟨m1, m2, m3, m4, m5, m6, m7, m8, m9, m10, m11, m12, m13, m14, m15, m16⟩ := pll49
      refine ⟨M, ?_, h, fun _ _ => rfl⟩
      rw [q137_0, i_0, eqF (by omega), i_1, eqF (by omega), i_2, eqF (by omega), i_3, eqF (by omega), i_4, eqT rfl, p5]
    · skip
      have hr : RR (upM M 819 7 (ii 0)) A := RR_k h.1.1 (by funext y; exact up_n (by decide))
      have hw : WR (upM M 819 7 (ii 0)) A T := ⟨hr, hi, by omega, hz.1.2.1⟩
      refine ⟨upM M 819 7 (ii 0), ?_, h.u7 hz, fr7, st7⟩
      rw [q174_0, i_0, ii_m1, eqF (by omega), i_1, eqF (by omega), i_2, eqF (by omega), i_3, eqF (by omega), i_4, eqT rfl, inR (by omega), rr_i (upM M 819 7 (ii 0)) (by omega), hr.1 4 (by omega) (by omega)]
  · refine ⟨ii (A 0 5), fun M X h => ?_, fun M X h => ?_⟩
    · skip
      have hs := h.1.2.1
      have hp := h.1.1
      obtain ⟨s1, ⟨tu, s2⟩, s3, ⟨nx9, s4⟩, s5, s6, s7, s8, s9, s10, s11, s12, s13, s14, s15, s16, s17⟩ := h.1.2.1
      obtain ⟨p1, p2, p3, p4, p5, p6, p7, p8, p9, p10, p11, p12, p13, p14, p15, p16, p17⟩ := h.1.1
      obtain ⟨l0, l1, l2, l3, l4, l5, l6, l7, l8, l9, l10, l11, l12, l13, l14, l15, l16, l17⟩ := stl83
      obtain ⟨m1, m2, m3, m4, m5, m6, m7, m8, m9, m10, m11, m12, m13, m14, m15, m16⟩ := pll49
      refine ⟨M, ?_, h, fun _ _ => rfl⟩
      rw [q137_0, i_0, eqF (by omega), i_1, eqF (by omega), i_2, eqF (by omega), i_3, eqF (by omega), i_4, eqF (by omega), i_5, eqT rfl, s1]
    · skip
      have hr : RR (upM M 819 7 (ii 0)) A := RR_k h.1.1 (by funext y; exact up_n (by decide))
      have hw : WR (upM M 819 7 (ii 0)) A T := ⟨hr, hi, by omega, hz.1.2.1⟩
      refine ⟨upM M 819 7 (ii 0), ?_, h.u7 hz, fr7, st7⟩
      rw [q174_0, i_0, ii_m1, eqF (by omega), i_1, eqF (by omega), i_2, eqF (by omega), i_3, eqF (by omega), i_4, eqF (by omega), i_5, eqT rfl, inR (by omega), rr_i (upM M 819 7 (ii 0)) (by omega), hr.1 5 (by omega) (by omega)]
  · refine ⟨ii (itmA A), fun M X h => ?_, fun M X h => ?_⟩
    · skip
      have hs := h.1.2.1
      have hp := h.1.1
      obtain ⟨s1, ⟨tu, s2⟩, s3, ⟨nx9, s4⟩, s5, s6, s7, s8, s9, s10, s11, s12, s13, s14, s15, s16, s17⟩ := h.1.2.1
      obtain ⟨p1, p2, p3, p4, p5, p6, p7, p8, p9, p10, p11, p12, p13, p14, p15, p16, p17⟩ := h.1.1
      obtain ⟨l0, l1, l2, l3, l4, l5, l6, l7, l8, l9, l10, l11, l12, l13, l14, l15, l16, l17⟩ := stl83
      obtain ⟨m1, m2, m3, m4, m5, m6, m7, m8, m9, m10, m11, m12, m13, m14, m15, m16⟩ := pll49
      refine ⟨M, ?_, h, fun _ _ => rfl⟩
      rw [q137_0, i_0, eqF (by omega), i_1, eqF (by omega), i_2, eqF (by omega), i_3, eqF (by omega), i_4, eqF (by omega), i_5, eqF (by omega), i_6, eqT rfl, show ev true 76 0 0 [pR 9 84, p0, p0] [] M X = _ from S76 hs stl83 hi, kt1, q137_138]
    · skip
      have hr : RR (upM M 819 7 (ii 0)) A := RR_k h.1.1 (by funext y; exact up_n (by decide))
      have hw : WR (upM M 819 7 (ii 0)) A T := ⟨hr, hi, by omega, hz.1.2.1⟩
      refine ⟨upM M 819 7 (ii 0), ?_, h.u7 hz, fr7, st7⟩
      rw [q174_0, i_0, ii_m1, eqF (by omega), i_1, eqF (by omega), i_2, eqF (by omega), i_3, eqF (by omega), i_4, eqF (by omega), i_5, eqF (by omega), i_6, eqT rfl, S107 hw (by omega), kb1, q174_96, if_pos rfl]
  · refine ⟨ii (resA A), fun M X h => ?_, fun M X h => ?_⟩
    · skip
      have hs := h.1.2.1
      have hp := h.1.1
      obtain ⟨s1, ⟨tu, s2⟩, s3, ⟨nx9, s4⟩, s5, s6, s7, s8, s9, s10, s11, s12, s13, s14, s15, s16, s17⟩ := h.1.2.1
      obtain ⟨p1, p2, p3, p4, p5, p6, p7, p8, p9, p10, p11, p12, p13, p14, p15, p16, p17⟩ := h.1.1
      obtain ⟨l0, l1, l2, l3, l4, l5, l6, l7, l8, l9, l10, l11, l12, l13, l14, l15, l16, l17⟩ := stl83
      obtain ⟨m1, m2, m3, m4, m5, m6, m7, m8, m9, m10, m11, m12, m13, m14, m15, m16⟩ := pll49
      refine ⟨M, ?_, h, fun _ _ => rfl⟩
      rw [q137_0, i_0, eqF (by omega), i_1, eqF (by omega), i_2, eqF (by omega), i_3, eqF (by omega), i_4, eqF (by omega), i_5, eqF (by omega), i_6, eqF (by omega), i_7, eqT rfl, show ev true 77 0 0 [pR 9 84, p0, p0] [] M X = _ from S77 hs stl83 hi, kt1, q137_149]
    · skip
      have hr : RR (upM M 819 7 (ii 0)) A := RR_k h.1.1 (by funext y; exact up_n (by decide))
      have hw : WR (upM M 819 7 (ii 0)) A T := ⟨hr, hi, by omega, hz.1.2.1⟩
      refine ⟨upM M 819 7 (ii 0), ?_, h.u7 hz, fr7, st7⟩
      rw [q174_0, i_0, ii_m1, eqF (by omega), i_1, eqF (by omega), i_2, eqF (by omega), i_3, eqF (by omega), i_4, eqF (by omega), i_5, eqF (by omega), i_6, eqF (by omega), i_7, eqT rfl, S108 hw, kb1, q174_101]
  · refine ⟨ii (A 0 0 - itmA A - resA A), fun M X h => ?_, fun M X h => ?_⟩
    · skip
      have hs := h.1.2.1
      have hp := h.1.1
      obtain ⟨s1, ⟨tu, s2⟩, s3, ⟨nx9, s4⟩, s5, s6, s7, s8, s9, s10, s11, s12, s13, s14, s15, s16, s17⟩ := h.1.2.1
      obtain ⟨p1, p2, p3, p4, p5, p6, p7, p8, p9, p10, p11, p12, p13, p14, p15, p16, p17⟩ := h.1.1
      obtain ⟨l0, l1, l2, l3, l4, l5, l6, l7, l8, l9, l10, l11, l12, l13, l14, l15, l16, l17⟩ := stl83
      obtain ⟨m1, m2, m3, m4, m5, m6, m7, m8, m9, m10, m11, m12, m13, m14, m15, m16⟩ := pll49
      refine ⟨M, ?_, h, fun _ _ => rfl⟩
      rw [q137_0, i_0, eqF (by omega), i_1, eqF (by omega), i_2, eqF (by omega), i_3, eqF (by omega), i_4, eqF (by omega), i_5, eqF (by omega), i_6, eqF (by omega), i_7, eqF (by omega), i_8, eqT rfl, show ev true 76 0 0 [pR 9 84, p0, p0] [] M X = _ from S76 hs stl83 hi, kt1, q137_167, show ev true 77 0 0 [pR 9 84, p0, p0] [] M X = _ from S77 hs stl83 hi, kt1, q137_178, p1, ii_sub, ii_sub]
    · skip
      have hr : RR (upM M 819 7 (ii 0)) A := RR_k h.1.1 (by funext y; exact up_n (by decide))
      have hw : WR (upM M 819 7 (ii 0)) A T := ⟨hr, hi, by omega, hz.1.2.1⟩
      refine ⟨upM M 819 7 (ii 0), ?_, h.u7 hz, fr7, st7⟩
      rw [q174_0, i_0, ii_m1, eqF (by omega), i_1, eqF (by omega), i_2, eqF (by omega), i_3, eqF (by omega), i_4, eqF (by omega), i_5, eqF (by omega), i_6, eqF (by omega), i_7, eqF (by omega), i_8, eqT rfl, S23, kb1, q174_106, ii_m1, S107 hw (by omega), kb1, q174_111, S108 hw, kb1, q174_116, if_pos rfl, show rr (upM M 819 7 (ii 0)) 0 = ii (A 0 0) from hr.1 0 (by omega) (by omega), ii_sub, ii_sub]
  · refine ⟨ii (s6 (A 44)), fun M X h => ?_, fun M X h => ?_⟩
    · skip
      have hs := h.1.2.1
      have hp := h.1.1
      obtain ⟨s1, ⟨tu, s2⟩, s3, ⟨nx9, s4⟩, s5, s6, s7, s8, s9, s10, s11, s12, s13, s14, s15, s16, s17⟩ := h.1.2.1
      obtain ⟨p1, p2, p3, p4, p5, p6, p7, p8, p9, p10, p11, p12, p13, p14, p15, p16, p17⟩ := h.1.1
      obtain ⟨l0, l1, l2, l3, l4, l5, l6, l7, l8, l9, l10, l11, l12, l13, l14, l15, l16, l17⟩ := stl83
      obtain ⟨m1, m2, m3, m4, m5, m6, m7, m8, m9, m10, m11, m12, m13, m14, m15, m16⟩ := pll49
      refine ⟨M, ?_, h, fun _ _ => rfl⟩
      rw [q137_0, i_0, eqF (by omega), i_1, eqF (by omega), i_2, eqF (by omega), i_3, eqF (by omega), i_4, eqF (by omega), i_5, eqF (by omega), i_6, eqF (by omega), i_7, eqF (by omega), i_8, eqF (by omega), i_9, eqT rfl, sum6 (t := 102) (fun j a b => (s3 j a b).2.2.1) l3, kt1, q137_193]
    · skip
      have hr : RR (upM M 819 7 (ii 0)) A := RR_k h.1.1 (by funext y; exact up_n (by decide))
      have hw : WR (upM M 819 7 (ii 0)) A T := ⟨hr, hi, by omega, hz.1.2.1⟩
      refine ⟨upM M 819 7 (ii 0), ?_, h.u7 hz, fr7, st7⟩
      rw [q174_0, i_0, ii_m1, eqF (by omega), i_1, eqF (by omega), i_2, eqF (by omega), i_3, eqF (by omega), i_4, eqF (by omega), i_5, eqF (by omega), i_6, eqF (by omega), i_7, eqF (by omega), i_8, eqF (by omega), i_9, eqT rfl, S109 hw (by omega), kb1, q174_123, wr_s6 hi]
  · refine ⟨ii (A 0 6), fun M X h => ?_, fun M X h => ?_⟩
    · skip
      have hs := h.1.2.1
      have hp := h.1.1
      obtain ⟨s1, ⟨tu, s2⟩, s3, ⟨nx9, s4⟩, s5, s6, s7, s8, s9, s10, s11, s12, s13, s14, s15, s16, s17⟩ := h.1.2.1
      obtain ⟨p1, p2, p3, p4, p5, p6, p7, p8, p9, p10, p11, p12, p13, p14, p15, p16, p17⟩ := h.1.1
      obtain ⟨l0, l1, l2, l3, l4, l5, l6, l7, l8, l9, l10, l11, l12, l13, l14, l15, l16, l17⟩ := stl83
      obtain ⟨m1, m2, m3, m4, m5, m6, m7, m8, m9, m10, m11, m12, m13, m14, m15, m16⟩ := pll49
      refine ⟨M, ?_, h, fun _ _ => rfl⟩
      rw [q137_0, i_0, eqF (by omega), i_1, eqF (by omega), i_2, eqF (by omega), i_3, eqF (by omega), i_4, eqF (by omega), i_5, eqF (by omega), i_6, eqF (by omega), i_7, eqF (by omega), i_8, eqF (by omega), i_9, eqF (by omega), i_10, eqT rfl, sum6 (t := 126) s16 l15, kt1, q137_204, ← hz.1.2.2.2.1.1]
    · skip
      have hr : RR (upM M 819 7 (ii 0)) A := RR_k h.1.1 (by funext y; exact up_n (by decide))
      have hw : WR (upM M 819 7 (ii 0)) A T := ⟨hr, hi, by omega, hz.1.2.1⟩
      refine ⟨upM M 819 7 (ii 0), ?_, h.u7 hz, fr7, st7⟩
      rw [q174_0, i_0, ii_m1, eqF (by omega), i_1, eqF (by omega), i_2, eqF (by omega), i_3, eqF (by omega), i_4, eqF (by omega), i_5, eqF (by omega), i_6, eqF (by omega), i_7, eqF (by omega), i_8, eqF (by omega), i_9, eqF (by omega), i_10, eqT rfl, inR (by omega), show upM M 819 7 (ii 0) 820 6 = ii (A 0 6) from hr.1 6 (by omega) (by omega)]
  · refine ⟨ii (A 0 7), fun M X h => ?_, fun M X h => ?_⟩
    · skip
      have hs := h.1.2.1
      have hp := h.1.1
      obtain ⟨s1, ⟨tu, s2⟩, s3, ⟨nx9, s4⟩, s5, s6, s7, s8, s9, s10, s11, s12, s13, s14, s15, s16, s17⟩ := h.1.2.1
      obtain ⟨p1, p2, p3, p4, p5, p6, p7, p8, p9, p10, p11, p12, p13, p14, p15, p16, p17⟩ := h.1.1
      obtain ⟨l0, l1, l2, l3, l4, l5, l6, l7, l8, l9, l10, l11, l12, l13, l14, l15, l16, l17⟩ := stl83
      obtain ⟨m1, m2, m3, m4, m5, m6, m7, m8, m9, m10, m11, m12, m13, m14, m15, m16⟩ := pll49
      refine ⟨M, ?_, h, fun _ _ => rfl⟩
      rw [q137_0, i_0, eqF (by omega), i_1, eqF (by omega), i_2, eqF (by omega), i_3, eqF (by omega), i_4, eqF (by omega), i_5, eqF (by omega), i_6, eqF (by omega), i_7, eqF (by omega), i_8, eqF (by omega), i_9, eqF (by omega), i_10, eqF (by omega), i_11, eqT rfl, sum6 (t := 118) s12 l11, kt1, q137_215, ← hz.1.2.2.2.1.2.2]
    · skip
      have hr : RR (upM M 819 7 (ii 0)) A := RR_k h.1.1 (by funext y; exact up_n (by decide))
      have hw : WR (upM M 819 7 (ii 0)) A T := ⟨hr, hi, by omega, hz.1.2.1⟩
      refine ⟨upM M 819 7 (ii 0), ?_, h.u7 hz, fr7, st7⟩
      rw [q174_0, i_0, ii_m1, eqF (by omega), i_1, eqF (by omega), i_2, eqF (by omega), i_3, eqF (by omega), i_4, eqF (by omega), i_5, eqF (by omega), i_6, eqF (by omega), i_7, eqF (by omega), i_8, eqF (by omega), i_9, eqF (by omega), i_10, eqF (by omega), i_11, eqT rfl, inR (by omega), show upM M 819 7 (ii 0) 820 7 = ii (A 0 7) from hr.1 7 (by omega) (by omega)]
  · refine ⟨ii (A 0 8), fun M X h => ?_, fun M X h => ?_⟩
    · skip
      have hs := h.1.2.1
      have hp := h.1.1
      obtain ⟨s1, ⟨tu, s2⟩, s3, ⟨nx9, s4⟩, s5, s6, s7, s8, s9, s10, s11, s12, s13, s14, s15, s16, s17⟩ := h.1.2.1
      obtain ⟨p1, p2, p3, p4, p5, p6, p7, p8, p9, p10, p11, p12, p13, p14, p15, p16, p17⟩ := h.1.1
      obtain ⟨l0, l1, l2, l3, l4, l5, l6, l7, l8, l9, l10, l11, l12, l13, l14, l15, l16, l17⟩ := stl83
      obtain ⟨m1, m2, m3, m4, m5, m6, m7, m8, m9, m10, m11, m12, m13, m14, m15, m16⟩ := pll49
      refine ⟨M, ?_, h, fun _ _ => rfl⟩
      rw [q137_0, i_0, eqF (by omega), i_1, eqF (by omega), i_2, eqF (by omega), i_3, eqF (by omega), i_4, eqF (by omega), i_5, eqF (by omega), i_6, eqF (by omega), i_7, eqF (by omega), i_8, eqF (by omega), i_9, eqF (by omega), i_10, eqF (by omega), i_11, eqF (by omega), i_12, eqT rfl, show M 130 2 = ii (A 0 8) from s4.2.2.2.1]
    · skip
      have hr : RR (upM M 819 7 (ii 0)) A := RR_k h.1.1 (by funext y; exact up_n (by decide))
      have hw : WR (upM M 819 7 (ii 0)) A T := ⟨hr, hi, by omega, hz.1.2.1⟩
      refine ⟨upM M 819 7 (ii 0), ?_, h.u7 hz, fr7, st7⟩
      rw [q174_0, i_0, ii_m1, eqF (by omega), i_1, eqF (by omega), i_2, eqF (by omega), i_3, eqF (by omega), i_4, eqF (by omega), i_5, eqF (by omega), i_6, eqF (by omega), i_7, eqF (by omega), i_8, eqF (by omega), i_9, eqF (by omega), i_10, eqF (by omega), i_11, eqF (by omega), i_12, eqT rfl, inR (by omega), show upM M 819 7 (ii 0) 820 8 = ii (A 0 8) from hr.1 8 (by omega) (by omega)]
  · refine ⟨ii n, fun M X h => ?_, fun M X h => ?_⟩
    · skip
      have hs := h.1.2.1
      have hp := h.1.1
      obtain ⟨s1, ⟨tu, s2⟩, s3, ⟨nx9, s4⟩, s5, s6, s7, s8, s9, s10, s11, s12, s13, s14, s15, s16, s17⟩ := h.1.2.1
      obtain ⟨p1, p2, p3, p4, p5, p6, p7, p8, p9, p10, p11, p12, p13, p14, p15, p16, p17⟩ := h.1.1
      obtain ⟨l0, l1, l2, l3, l4, l5, l6, l7, l8, l9, l10, l11, l12, l13, l14, l15, l16, l17⟩ := stl83
      obtain ⟨m1, m2, m3, m4, m5, m6, m7, m8, m9, m10, m11, m12, m13, m14, m15, m16⟩ := pll49
      obtain ⟨ny, a1, a2, a3, a4, a5⟩ := h.2.1
      refine ⟨M, ?_, h, fun _ _ => rfl⟩
      rw [q137_0, i_0, eqF (by omega), i_1, eqF (by omega), i_2, eqF (by omega), i_3, eqF (by omega), i_4, eqF (by omega), i_5, eqF (by omega), i_6, eqF (by omega), i_7, eqF (by omega), i_8, eqF (by omega), i_9, eqF (by omega), i_10, eqF (by omega), i_11, eqF (by omega), i_12, eqF (by omega), i_13, eqT rfl, a4]
    · skip
      have hr : RR (upM M 819 7 (ii 0)) A := RR_k h.1.1 (by funext y; exact up_n (by decide))
      have hw : WR (upM M 819 7 (ii 0)) A T := ⟨hr, hi, by omega, hz.1.2.1⟩
      refine ⟨upM M 819 7 (ii 0), ?_, h.u7 hz, fr7, st7⟩
      rw [q174_0, i_0, ii_m1, eqF (by omega), i_1, eqF (by omega), i_2, eqF (by omega), i_3, eqF (by omega), i_4, eqF (by omega), i_5, eqF (by omega), i_6, eqF (by omega), i_7, eqF (by omega), i_8, eqF (by omega), i_9, eqF (by omega), i_10, eqF (by omega), i_11, eqF (by omega), i_12, eqF (by omega), i_13, eqT rfl, up_d (by decide), h.2.1.1]
  · refine ⟨ii s, fun M X h => ?_, fun M X h => ?_⟩
    · skip
      have hs := h.1.2.1
      have hp := h.1.1
      obtain ⟨s1, ⟨tu, s2⟩, s3, ⟨nx9, s4⟩, s5, s6, s7, s8, s9, s10, s11, s12, s13, s14, s15, s16, s17⟩ := h.1.2.1
      obtain ⟨p1, p2, p3, p4, p5, p6, p7, p8, p9, p10, p11, p12, p13, p14, p15, p16, p17⟩ := h.1.1
      obtain ⟨l0, l1, l2, l3, l4, l5, l6, l7, l8, l9, l10, l11, l12, l13, l14, l15, l16, l17⟩ := stl83
      obtain ⟨m1, m2, m3, m4, m5, m6, m7, m8, m9, m10, m11, m12, m13, m14, m15, m16⟩ := pll49
      refine ⟨M, ?_, h, fun _ _ => rfl⟩
      rw [q137_0, i_0, eqF (by omega), i_1, eqF (by omega), i_2, eqF (by omega), i_3, eqF (by omega), i_4, eqF (by omega), i_5, eqF (by omega), i_6, eqF (by omega), i_7, eqF (by omega), i_8, eqF (by omega), i_9, eqF (by omega), i_10, eqF (by omega), i_11, eqF (by omega), i_12, eqF (by omega), i_13, eqF (by omega), i_14, eqT rfl, h.2.2.2.1.1]
    · skip
      have hr : RR (upM M 819 7 (ii 0)) A := RR_k h.1.1 (by funext y; exact up_n (by decide))
      have hw : WR (upM M 819 7 (ii 0)) A T := ⟨hr, hi, by omega, hz.1.2.1⟩
      refine ⟨upM M 819 7 (ii 0), ?_, h.u7 hz, fr7, st7⟩
      rw [q174_0, i_0, ii_m1, eqF (by omega), i_1, eqF (by omega), i_2, eqF (by omega), i_3, eqF (by omega), i_4, eqF (by omega), i_5, eqF (by omega), i_6, eqF (by omega), i_7, eqF (by omega), i_8, eqF (by omega), i_9, eqF (by omega), i_10, eqF (by omega), i_11, eqF (by omega), i_12, eqF (by omega), i_13, eqF (by omega), i_14, eqT rfl, up_d (by decide), h.2.2.2.1.1]
  · refine ⟨ii (A 0 9), fun M X h => ?_, fun M X h => ?_⟩
    · skip
      have hs := h.1.2.1
      have hp := h.1.1
      obtain ⟨s1, ⟨tu, s2⟩, s3, ⟨nx9, s4⟩, s5, s6, s7, s8, s9, s10, s11, s12, s13, s14, s15, s16, s17⟩ := h.1.2.1
      obtain ⟨p1, p2, p3, p4, p5, p6, p7, p8, p9, p10, p11, p12, p13, p14, p15, p16, p17⟩ := h.1.1
      obtain ⟨l0, l1, l2, l3, l4, l5, l6, l7, l8, l9, l10, l11, l12, l13, l14, l15, l16, l17⟩ := stl83
      obtain ⟨m1, m2, m3, m4, m5, m6, m7, m8, m9, m10, m11, m12, m13, m14, m15, m16⟩ := pll49
      refine ⟨M, ?_, h, fun _ _ => rfl⟩
      rcases (by omega : A 0 9 = 0 ∨ A 0 9 = 1) with e9 | e9
      · rw [q137_0, i_0, eqF (by omega), i_1, eqF (by omega), i_2, eqF (by omega), i_3, eqF (by omega), i_4, eqF (by omega), i_5, eqF (by omega), i_6, eqF (by omega), i_7, eqF (by omega), i_8, eqF (by omega), i_9, eqF (by omega), i_10, eqF (by omega), i_11, eqF (by omega), i_12, eqF (by omega), i_13, eqF (by omega), i_14, eqF (by omega), i_15, eqT rfl, p6, eqT e9, q137_258, e9]
      · rw [q137_0, i_0, eqF (by omega), i_1, eqF (by omega), i_2, eqF (by omega), i_3, eqF (by omega), i_4, eqF (by omega), i_5, eqF (by omega), i_6, eqF (by omega), i_7, eqF (by omega), i_8, eqF (by omega), i_9, eqF (by omega), i_10, eqF (by omega), i_11, eqF (by omega), i_12, eqF (by omega), i_13, eqF (by omega), i_14, eqF (by omega), i_15, eqT rfl, p6, eqF (by omega), q137_258, e9]
    · skip
      have hr : RR (upM M 819 7 (ii 0)) A := RR_k h.1.1 (by funext y; exact up_n (by decide))
      have hw : WR (upM M 819 7 (ii 0)) A T := ⟨hr, hi, by omega, hz.1.2.1⟩
      refine ⟨upM M 819 7 (ii 0), ?_, h.u7 hz, fr7, st7⟩
      rw [q174_0, i_0, ii_m1, eqF (by omega), i_1, eqF (by omega), i_2, eqF (by omega), i_3, eqF (by omega), i_4, eqF (by omega), i_5, eqF (by omega), i_6, eqF (by omega), i_7, eqF (by omega), i_8, eqF (by omega), i_9, eqF (by omega), i_10, eqF (by omega), i_11, eqF (by omega), i_12, eqF (by omega), i_13, eqF (by omega), i_14, eqF (by omega), i_15, eqT rfl, inR (by omega), show upM M 819 7 (ii 0) 820 9 = ii (A 0 9) from hr.1 9 (by omega) (by omega)]
theorem P_count_n (hz : ZW T A n Q k I s D f) (hT : T < 1000000) (hb : B32 b) (hc : ¬ (0 ≤ b ∧ b < 16)) : cT (fun M => CW M A n Q k I s D f) 137 [pR 1 0, pI (ii b)] 1 ∧ rA (fun M => RWx M A n Q k I s D f) (fun M => RWx M A n Q k I s D f) 174 [pR 13 819, pI (ii b)] (ii 0) 1 := by
  obtain ⟨b1, b2⟩ := hb
  refine ⟨fun M X h hX => ?_, fun M X h => ⟨upM (upM M 819 7 (ii 0)) 819 7 (ii 1), ?_, (h.u7 hz).u7 hz, fun y hy => by rw [fr7 y hy, fr7 y hy], st7⟩⟩
  · rw [q137_0, i_0, eqF (by omega), i_1, eqF (by omega), i_2, eqF (by omega), i_3, eqF (by omega), i_4, eqF (by omega), i_5, eqF (by omega), i_6, eqF (by omega), i_7, eqF (by omega), i_8, eqF (by omega), i_9, eqF (by omega), i_10, eqF (by omega), i_11, eqF (by omega), i_12, eqF (by omega), i_13, eqF (by omega), i_14, eqF (by omega), i_15, eqF (by omega), thT hX (by decide) (by decide)]
  · rw [q174_0, i_0, eqF (by omega), i_1, eqF (by omega), i_2, eqF (by omega), i_3, eqF (by omega), i_4, eqF (by omega), i_5, eqF (by omega), i_6, eqF (by omega), i_7, eqF (by omega), i_8, eqF (by omega), i_9, eqF (by omega), i_10, eqF (by omega), i_11, eqF (by omega), i_12, eqF (by omega), i_13, eqF (by omega), i_14, eqF (by omega), i_15, eqF (by omega), S27, kb1, q174_171]
theorem pl_r (hr : RR M A) (h1 : 0 ≤ a) (h2 : a < A 0 0) : rr M (174 + 6 * a + 0) = ii (A 20 a) ∧ rr M (174 + 6 * a + 1) = ii (A 21 a) ∧ rr M (174 + 6 * a + 2) = ii (A 22 a) ∧ (A 20 a ≠ -1 → rr M (174 + 6 * a + 3) = ii (A 23 a)) ∧ rr M (174 + 6 * a + 5) = ii (A 25 a) := by
  obtain ⟨p0, p1, p2, p34, p5⟩ := hr.2.2.2.2.2.1 a h1 h2
  exact ⟨p0, p1, p2, fun z => (p34 z).1, p5⟩
theorem S111 (h : WR M A T) (h1 : 0 ≤ a) (h2 : a < A 0 0) : ev true 111 0 0 [pR 13 819, pI (ii a)] [] M X = some (.inl (some (pI (ii (if A 20 a = -1 then -1 else A 0 5 - A 23 a)))), M, X) := by
  obtain ⟨hr, hi, -⟩ := h
  have g := hi.1
  obtain ⟨v0, v1, v2, v3, v5⟩ := pl_r hr h1 h2
  obtain ⟨y3, y4, -⟩ := hi.2.2.2.2.2.2 a h1 h2
  have t5 : M 820 5 = ii (A 0 5) := hr.1 5 (by omega) (by omega)
  rw [q111_0, i_0, S24 (by omega), kb1, v0, q111_6, ii_m1, ieq (by omega)]
  by_cases c : A 20 a = -1
  · rw [if_pos c, if_pos c, q111_27]
  · rw [if_neg c, if_neg c, i_5, inR (by omega), t5, i_3, S24 (by omega), kb1, v3 c, q111_26, ii_sub, q111_27]
theorem P_place_y (hz : ZW T A n Q k I s D f) (hT : T < 1000000)  (hc : (0 ≤ a ∧ a < A 0 0) ∧ (0 ≤ b ∧ b < 5)) : ∃ v : Int32, cA (fun M => CW M A n Q k I s D f) (fun M => CW M A n Q k I s D f) 199 [pR 1 0, pI (ii a), pI (ii b)] v ∧ rA (fun M => RWx M A n Q k I s D f) (fun M => RWx M A n Q k I s D f) 175 [pR 13 819, pI (ii a), pI (ii b)] v 0 := by
  have hi := hz.1.1
  have g := hi.1
  rcases (by omega : b = 0 ∨ b = 1 ∨ b = 2 ∨ b = 3 ∨ b = 4) with rfl | rfl | rfl | rfl | rfl
  · refine ⟨ii (A 20 a), fun M X h => ?_, fun M X h => ?_⟩
    · skip
      have hs := h.1.2.1
      have hp := h.1.1
      obtain ⟨s1, ⟨tu, s2⟩, s3, ⟨nx9, s4⟩, s5, s6, s7, s8, s9, s10, s11, s12, s13, s14, s15, s16, s17⟩ := h.1.2.1
      obtain ⟨p1, p2, p3, p4, p5, p6, p7, p8, p9, p10, p11, p12, p13, p14, p15, p16, p17⟩ := h.1.1
      obtain ⟨l0, l1, l2, l3, l4, l5, l6, l7, l8, l9, l10, l11, l12, l13, l14, l15, l16, l17⟩ := stl83
      obtain ⟨m1, m2, m3, m4, m5, m6, m7, m8, m9, m10, m11, m12, m13, m14, m15, m16⟩ := pll49
      refine ⟨M, ?_, h, fun _ _ => rfl⟩
      rw [q199_0, p1, S1 (b32 (by omega)) (by omega), kt1, q199_11, i_0, bIT, decide_eq_true hc.1, cond_true, eqT rfl, show ev true 78 0 0 [pR 9 84, pI (ii a)] [] M X = _ from S78 s2 l0 hc.1.1 hc.1.2, kt1, q199_67]
    · skip
      have hr : RR (upM M 819 7 (ii 0)) A := RR_k h.1.1 (by funext y; exact up_n (by decide))
      have hw : WR (upM M 819 7 (ii 0)) A T := ⟨hr, hi, by omega, hz.1.2.1⟩
      refine ⟨upM M 819 7 (ii 0), ?_, h.u7 hz, fr7, st7⟩
      rw [q175_0, i_0, S110 hr hi (b32 (by omega)), kb1, q175_10, i_0, bIT, decide_eq_true hc.1, cond_true, i_4, S28 (b32 (by omega)) (b32 (by omega)) (b32 (by omega)), kb1, q175_19, i_0, bIT, decide_eq_true (by omega), cond_true, i_3, ltT (by omega), S24 (by omega), kb1, (pl_r hr hc.1.1 hc.1.2).1, q175_39, q175_61]
  · refine ⟨ii (A 21 a), fun M X h => ?_, fun M X h => ?_⟩
    · skip
      have hs := h.1.2.1
      have hp := h.1.1
      obtain ⟨s1, ⟨tu, s2⟩, s3, ⟨nx9, s4⟩, s5, s6, s7, s8, s9, s10, s11, s12, s13, s14, s15, s16, s17⟩ := h.1.2.1
      obtain ⟨p1, p2, p3, p4, p5, p6, p7, p8, p9, p10, p11, p12, p13, p14, p15, p16, p17⟩ := h.1.1
      obtain ⟨l0, l1, l2, l3, l4, l5, l6, l7, l8, l9, l10, l11, l12, l13, l14, l15, l16, l17⟩ := stl83
      obtain ⟨m1, m2, m3, m4, m5, m6, m7, m8, m9, m10, m11, m12, m13, m14, m15, m16⟩ := pll49
      refine ⟨M, ?_, h, fun _ _ => rfl⟩
      rw [q199_0, p1, S1 (b32 (by omega)) (by omega), kt1, q199_11, i_0, bIT, decide_eq_true hc.1, cond_true, eqF (by omega), i_1, eqT rfl, show ev true 79 0 0 [pR 9 84, pI (ii a)] [] M X = _ from S79 s2 l0 hc.1.1 hc.1.2, kt1, q199_79]
    · skip
      have hr : RR (upM M 819 7 (ii 0)) A := RR_k h.1.1 (by funext y; exact up_n (by decide))
      have hw : WR (upM M 819 7 (ii 0)) A T := ⟨hr, hi, by omega, hz.1.2.1⟩
      refine ⟨upM M 819 7 (ii 0), ?_, h.u7 hz, fr7, st7⟩
      rw [q175_0, i_0, S110 hr hi (b32 (by omega)), kb1, q175_10, i_0, bIT, decide_eq_true hc.1, cond_true, i_4, S28 (b32 (by omega)) (b32 (by omega)) (b32 (by omega)), kb1, q175_19, i_0, bIT, decide_eq_true (by omega), cond_true, i_3, ltT (by omega), S24 (by omega), kb1, (pl_r hr hc.1.1 hc.1.2).2.1, q175_39, q175_61]
  · refine ⟨ii (A 22 a), fun M X h => ?_, fun M X h => ?_⟩
    · skip
      have hs := h.1.2.1
      have hp := h.1.1
      obtain ⟨s1, ⟨tu, s2⟩, s3, ⟨nx9, s4⟩, s5, s6, s7, s8, s9, s10, s11, s12, s13, s14, s15, s16, s17⟩ := h.1.2.1
      obtain ⟨p1, p2, p3, p4, p5, p6, p7, p8, p9, p10, p11, p12, p13, p14, p15, p16, p17⟩ := h.1.1
      obtain ⟨l0, l1, l2, l3, l4, l5, l6, l7, l8, l9, l10, l11, l12, l13, l14, l15, l16, l17⟩ := stl83
      obtain ⟨m1, m2, m3, m4, m5, m6, m7, m8, m9, m10, m11, m12, m13, m14, m15, m16⟩ := pll49
      refine ⟨M, ?_, h, fun _ _ => rfl⟩
      rw [q199_0, p1, S1 (b32 (by omega)) (by omega), kt1, q199_11, i_0, bIT, decide_eq_true hc.1, cond_true, eqF (by omega), i_1, eqF (by omega), i_2, eqT rfl, show ev true 80 0 0 [pR 9 84, pI (ii a)] [] M X = _ from S80 s2 l0 hc.1.1 hc.1.2, kt1, q199_91]
    · skip
      have hr : RR (upM M 819 7 (ii 0)) A := RR_k h.1.1 (by funext y; exact up_n (by decide))
      have hw : WR (upM M 819 7 (ii 0)) A T := ⟨hr, hi, by omega, hz.1.2.1⟩
      refine ⟨upM M 819 7 (ii 0), ?_, h.u7 hz, fr7, st7⟩
      rw [q175_0, i_0, S110 hr hi (b32 (by omega)), kb1, q175_10, i_0, bIT, decide_eq_true hc.1, cond_true, i_4, S28 (b32 (by omega)) (b32 (by omega)) (b32 (by omega)), kb1, q175_19, i_0, bIT, decide_eq_true (by omega), cond_true, i_3, ltT (by omega), S24 (by omega), kb1, (pl_r hr hc.1.1 hc.1.2).2.2.1, q175_39, q175_61]
  · refine ⟨ii (if A 20 a = -1 then -1 else A 0 5 - A 23 a), fun M X h => ?_, fun M X h => ?_⟩
    · skip
      have hs := h.1.2.1
      have hp := h.1.1
      obtain ⟨s1, ⟨tu, s2⟩, s3, ⟨nx9, s4⟩, s5, s6, s7, s8, s9, s10, s11, s12, s13, s14, s15, s16, s17⟩ := h.1.2.1
      obtain ⟨p1, p2, p3, p4, p5, p6, p7, p8, p9, p10, p11, p12, p13, p14, p15, p16, p17⟩ := h.1.1
      obtain ⟨l0, l1, l2, l3, l4, l5, l6, l7, l8, l9, l10, l11, l12, l13, l14, l15, l16, l17⟩ := stl83
      obtain ⟨m1, m2, m3, m4, m5, m6, m7, m8, m9, m10, m11, m12, m13, m14, m15, m16⟩ := pll49
      refine ⟨M, ?_, h, fun _ _ => rfl⟩
      rw [q199_0, p1, S1 (b32 (by omega)) (by omega), kt1, q199_11, i_0, bIT, decide_eq_true hc.1, cond_true, eqF (by omega), i_1, eqF (by omega), i_2, eqF (by omega), i_3, eqT rfl, S155 hs stl83 hi hc.1.1 hc.1.2, kt1, q199_100]
    · skip
      have hr : RR (upM M 819 7 (ii 0)) A := RR_k h.1.1 (by funext y; exact up_n (by decide))
      have hw : WR (upM M 819 7 (ii 0)) A T := ⟨hr, hi, by omega, hz.1.2.1⟩
      refine ⟨upM M 819 7 (ii 0), ?_, h.u7 hz, fr7, st7⟩
      rw [q175_0, i_0, S110 hr hi (b32 (by omega)), kb1, q175_10, i_0, bIT, decide_eq_true hc.1, cond_true, i_4, S28 (b32 (by omega)) (b32 (by omega)) (b32 (by omega)), kb1, q175_19, i_0, bIT, decide_eq_true (by omega), cond_true, i_3, ltF (by omega), eqT rfl, S111 hw hc.1.1 hc.1.2, kb1, q175_52, q175_61]
  · refine ⟨ii (A 25 a), fun M X h => ?_, fun M X h => ?_⟩
    · skip
      have hs := h.1.2.1
      have hp := h.1.1
      obtain ⟨s1, ⟨tu, s2⟩, s3, ⟨nx9, s4⟩, s5, s6, s7, s8, s9, s10, s11, s12, s13, s14, s15, s16, s17⟩ := h.1.2.1
      obtain ⟨p1, p2, p3, p4, p5, p6, p7, p8, p9, p10, p11, p12, p13, p14, p15, p16, p17⟩ := h.1.1
      obtain ⟨l0, l1, l2, l3, l4, l5, l6, l7, l8, l9, l10, l11, l12, l13, l14, l15, l16, l17⟩ := stl83
      obtain ⟨m1, m2, m3, m4, m5, m6, m7, m8, m9, m10, m11, m12, m13, m14, m15, m16⟩ := pll49
      refine ⟨M, ?_, h, fun _ _ => rfl⟩
      rw [q199_0, p1, S1 (b32 (by omega)) (by omega), kt1, q199_11, i_0, bIT, decide_eq_true hc.1, cond_true, eqF (by omega), i_1, eqF (by omega), i_2, eqF (by omega), i_3, eqF (by omega), i_4, eqT rfl, show ev true 82 0 0 [pR 9 84, pI (ii a)] [] M X = _ from S82 s2 l0 hc.1.1 hc.1.2, kt1, q199_112]
    · skip
      have hr : RR (upM M 819 7 (ii 0)) A := RR_k h.1.1 (by funext y; exact up_n (by decide))
      have hw : WR (upM M 819 7 (ii 0)) A T := ⟨hr, hi, by omega, hz.1.2.1⟩
      refine ⟨upM M 819 7 (ii 0), ?_, h.u7 hz, fr7, st7⟩
      rw [q175_0, i_0, S110 hr hi (b32 (by omega)), kb1, q175_10, i_0, bIT, decide_eq_true hc.1, cond_true, i_4, S28 (b32 (by omega)) (b32 (by omega)) (b32 (by omega)), kb1, q175_19, i_0, bIT, decide_eq_true (by omega), cond_true, i_3, ltF (by omega), eqF (by omega), i_5, S24 (by omega), kb1, (pl_r hr hc.1.1 hc.1.2).2.2.2.2, q175_61]
theorem P_place_n (hz : ZW T A n Q k I s D f) (hT : T < 1000000) (ha : B32 a) (hb : B32 b) (hc : ¬ ((0 ≤ a ∧ a < A 0 0) ∧ (0 ≤ b ∧ b < 5))) : cT (fun M => CW M A n Q k I s D f) 199 [pR 1 0, pI (ii a), pI (ii b)] 1 ∧ rA (fun M => RWx M A n Q k I s D f) (fun M => RWx M A n Q k I s D f) 175 [pR 13 819, pI (ii a), pI (ii b)] (ii 0) 1 := by
  have hi := hz.1.1
  have g := hi.1
  refine ⟨fun M X h hX => ?_, fun M X h => ⟨upM (upM M 819 7 (ii 0)) 819 7 (ii 1), ?_, (h.u7 hz).u7 hz, fun y hy => by rw [fr7 y hy, fr7 y hy], st7⟩⟩
  · skip
    have hs := h.1.2.1
    have hp := h.1.1
    obtain ⟨s1, ⟨tu, s2⟩, s3, ⟨nx9, s4⟩, s5, s6, s7, s8, s9, s10, s11, s12, s13, s14, s15, s16, s17⟩ := h.1.2.1
    obtain ⟨p1, p2, p3, p4, p5, p6, p7, p8, p9, p10, p11, p12, p13, p14, p15, p16, p17⟩ := h.1.1
    obtain ⟨l0, l1, l2, l3, l4, l5, l6, l7, l8, l9, l10, l11, l12, l13, l14, l15, l16, l17⟩ := stl83
    obtain ⟨m1, m2, m3, m4, m5, m6, m7, m8, m9, m10, m11, m12, m13, m14, m15, m16⟩ := pll49
    rw [q199_0, p1, S1 ha (by omega), kt1, q199_11, i_0, bIT]
    by_cases c1 : 0 ≤ a ∧ a < A 0 0
    · obtain ⟨b1, b2⟩ := hb
      rw [decide_eq_true c1, cond_true, eqF (by omega), i_1, eqF (by omega), i_2, eqF (by omega), i_3, eqF (by omega), i_4, eqF (by omega), thT hX (by decide) (by decide)]
    · rw [decide_eq_false c1, cond_false, thT hX (by decide) (by decide)]
  · skip
    have hr : RR (upM M 819 7 (ii 0)) A := RR_k h.1.1 (by funext y; exact up_n (by decide))
    have hw : WR (upM M 819 7 (ii 0)) A T := ⟨hr, hi, by omega, hz.1.2.1⟩
    rw [q175_0, i_0, S110 hr hi ha, kb1, q175_10, i_0, bIT]
    have fin : ∀ z1 z2, ev true 175 0 22 [pR 13 819, z1, z2] [] (upM M 819 7 (ii 0)) X = some (.inl (some (pI (ii 0))), upM (upM M 819 7 (ii 0)) 819 7 (ii 1), X) := fun z1 z2 => by rw [q175_22, i_1, S27, kb1, q175_27]
    by_cases c1 : 0 ≤ a ∧ a < A 0 0
    · rw [decide_eq_true c1, cond_true, i_4, S28 hb (b32 (by omega)) (b32 (by omega)), kb1, q175_19, i_0, bIT, decide_eq_false (by omega), cond_false, fin]
    · rw [decide_eq_false c1, cond_false, fin]
theorem P_exit_y (hz : ZW T A n Q k I s D f) (hT : T < 1000000)  (hc : (0 ≤ a ∧ a < A 0 1) ∧ (0 ≤ b ∧ b < 6)) : ∃ v : Int32, cA (fun M => CW M A n Q k I s D f) (fun M => CW M A n Q k I s D f) 229 [pR 1 0, pI (ii a), pI (ii b)] v ∧ rA (fun M => RWx M A n Q k I s D f) (fun M => RWx M A n Q k I s D f) 176 [pR 13 819, pI (ii a), pI (ii b)] v 0 := by
  have hi := hz.1.1
  have g := hi.1
  rcases (by omega : b = 0 ∨ b = 1 ∨ b = 2 ∨ b = 3 ∨ b = 4 ∨ b = 5) with rfl | rfl | rfl | rfl | rfl | rfl
  · refine ⟨ii (A 30 a), fun M X h => ?_, fun M X h => ?_⟩
    · skip
      have hs := h.1.2.1
      have hp := h.1.1
      obtain ⟨s1, ⟨tu, s2⟩, s3, ⟨nx9, s4⟩, s5, s6, s7, s8, s9, s10, s11, s12, s13, s14, s15, s16, s17⟩ := h.1.2.1
      obtain ⟨p1, p2, p3, p4, p5, p6, p7, p8, p9, p10, p11, p12, p13, p14, p15, p16, p17⟩ := h.1.1
      obtain ⟨l0, l1, l2, l3, l4, l5, l6, l7, l8, l9, l10, l11, l12, l13, l14, l15, l16, l17⟩ := stl83
      obtain ⟨m1, m2, m3, m4, m5, m6, m7, m8, m9, m10, m11, m12, m13, m14, m15, m16⟩ := pll49
      refine ⟨M, ?_, h, fun _ _ => rfl⟩
      rw [q229_0, p2, S1 (b32 (by omega)) (by omega), kt1, q229_11, i_0, bIT, decide_eq_true hc.1, cond_true, eqT rfl, S12 (t := 50) hc.1.1 (by have e9 : rl 50 = 6 := m1; omega), kt1, p7 a hc.1.1 hc.1.2, q229_71]
    · skip
      have hr : RR (upM M 819 7 (ii 0)) A := RR_k h.1.1 (by funext y; exact up_n (by decide))
      have hw : WR (upM M 819 7 (ii 0)) A T := ⟨hr, hi, by omega, hz.1.2.1⟩
      refine ⟨upM M 819 7 (ii 0), ?_, h.u7 hz, fr7, st7⟩
      rw [q176_0, i_0, S112 hr hi (b32 (by omega)), kb1, q176_10, i_0, bIT, decide_eq_true hc.1, cond_true, i_5, S28 (b32 (by omega)) (b32 (by omega)) (b32 (by omega)), kb1, q176_19, i_0, bIT, decide_eq_true (by omega), cond_true, eqT rfl, S29 (by omega), kb1, (hr.2.1 a hc.1.1 (by omega)).1, q176_70]
  · refine ⟨ii (A 31 a), fun M X h => ?_, fun M X h => ?_⟩
    · skip
      have hs := h.1.2.1
      have hp := h.1.1
      obtain ⟨s1, ⟨tu, s2⟩, s3, ⟨nx9, s4⟩, s5, s6, s7, s8, s9, s10, s11, s12, s13, s14, s15, s16, s17⟩ := h.1.2.1
      obtain ⟨p1, p2, p3, p4, p5, p6, p7, p8, p9, p10, p11, p12, p13, p14, p15, p16, p17⟩ := h.1.1
      obtain ⟨l0, l1, l2, l3, l4, l5, l6, l7, l8, l9, l10, l11, l12, l13, l14, l15, l16, l17⟩ := stl83
      obtain ⟨m1, m2, m3, m4, m5, m6, m7, m8, m9, m10, m11, m12, m13, m14, m15, m16⟩ := pll49
      refine ⟨M, ?_, h, fun _ _ => rfl⟩
      rw [q229_0, p2, S1 (b32 (by omega)) (by omega), kt1, q229_11, i_0, bIT, decide_eq_true hc.1, cond_true, eqF (by omega), i_1, eqT rfl, S12 (t := 52) hc.1.1 (by have e9 : rl 52 = 6 := m2; omega), kt1, p8 a hc.1.1 hc.1.2, q229_83]
    · skip
      have hr : RR (upM M 819 7 (ii 0)) A := RR_k h.1.1 (by funext y; exact up_n (by decide))
      have hw : WR (upM M 819 7 (ii 0)) A T := ⟨hr, hi, by omega, hz.1.2.1⟩
      refine ⟨upM M 819 7 (ii 0), ?_, h.u7 hz, fr7, st7⟩
      rw [q176_0, i_0, S112 hr hi (b32 (by omega)), kb1, q176_10, i_0, bIT, decide_eq_true hc.1, cond_true, i_5, S28 (b32 (by omega)) (b32 (by omega)) (b32 (by omega)), kb1, q176_19, i_0, bIT, decide_eq_true (by omega), cond_true, eqF (by omega), i_1, eqT rfl, S29 (by omega), kb1, (hr.2.1 a hc.1.1 (by omega)).2.1, q176_77]
  · refine ⟨ii (A 32 a), fun M X h => ?_, fun M X h => ?_⟩
    · skip
      have hs := h.1.2.1
      have hp := h.1.1
      obtain ⟨s1, ⟨tu, s2⟩, s3, ⟨nx9, s4⟩, s5, s6, s7, s8, s9, s10, s11, s12, s13, s14, s15, s16, s17⟩ := h.1.2.1
      obtain ⟨p1, p2, p3, p4, p5, p6, p7, p8, p9, p10, p11, p12, p13, p14, p15, p16, p17⟩ := h.1.1
      obtain ⟨l0, l1, l2, l3, l4, l5, l6, l7, l8, l9, l10, l11, l12, l13, l14, l15, l16, l17⟩ := stl83
      obtain ⟨m1, m2, m3, m4, m5, m6, m7, m8, m9, m10, m11, m12, m13, m14, m15, m16⟩ := pll49
      refine ⟨M, ?_, h, fun _ _ => rfl⟩
      rw [q229_0, p2, S1 (b32 (by omega)) (by omega), kt1, q229_11, i_0, bIT, decide_eq_true hc.1, cond_true, eqF (by omega), i_1, eqF (by omega), i_2, eqT rfl, S12 (t := 124) hc.1.1 (by have e9 : rl 124 = 6 := l14; omega), kt1, s15 a hc.1.1 hc.1.2, q229_95]
    · skip
      have hr : RR (upM M 819 7 (ii 0)) A := RR_k h.1.1 (by funext y; exact up_n (by decide))
      have hw : WR (upM M 819 7 (ii 0)) A T := ⟨hr, hi, by omega, hz.1.2.1⟩
      refine ⟨upM M 819 7 (ii 0), ?_, h.u7 hz, fr7, st7⟩
      rw [q176_0, i_0, S112 hr hi (b32 (by omega)), kb1, q176_10, i_0, bIT, decide_eq_true hc.1, cond_true, i_5, S28 (b32 (by omega)) (b32 (by omega)) (b32 (by omega)), kb1, q176_19, i_0, bIT, decide_eq_true (by omega), cond_true, eqF (by omega), i_1, eqF (by omega), i_2, eqT rfl, S29 (by omega), kb1, (hr.2.1 a hc.1.1 (by omega)).2.2.1, q176_84]
  · refine ⟨ii (A 34 a), fun M X h => ?_, fun M X h => ?_⟩
    · skip
      have hs := h.1.2.1
      have hp := h.1.1
      obtain ⟨s1, ⟨tu, s2⟩, s3, ⟨nx9, s4⟩, s5, s6, s7, s8, s9, s10, s11, s12, s13, s14, s15, s16, s17⟩ := h.1.2.1
      obtain ⟨p1, p2, p3, p4, p5, p6, p7, p8, p9, p10, p11, p12, p13, p14, p15, p16, p17⟩ := h.1.1
      obtain ⟨l0, l1, l2, l3, l4, l5, l6, l7, l8, l9, l10, l11, l12, l13, l14, l15, l16, l17⟩ := stl83
      obtain ⟨m1, m2, m3, m4, m5, m6, m7, m8, m9, m10, m11, m12, m13, m14, m15, m16⟩ := pll49
      refine ⟨M, ?_, h, fun _ _ => rfl⟩
      rw [q229_0, p2, S1 (b32 (by omega)) (by omega), kt1, q229_11, i_0, bIT, decide_eq_true hc.1, cond_true, eqF (by omega), i_1, eqF (by omega), i_2, eqF (by omega), i_3, eqT rfl, S12 (t := 126) hc.1.1 (by have e9 : rl 126 = 6 := l15; omega), kt1, s16 a hc.1.1 (by omega), q229_107]
    · skip
      have hr : RR (upM M 819 7 (ii 0)) A := RR_k h.1.1 (by funext y; exact up_n (by decide))
      have hw : WR (upM M 819 7 (ii 0)) A T := ⟨hr, hi, by omega, hz.1.2.1⟩
      refine ⟨upM M 819 7 (ii 0), ?_, h.u7 hz, fr7, st7⟩
      rw [q176_0, i_0, S112 hr hi (b32 (by omega)), kb1, q176_10, i_0, bIT, decide_eq_true hc.1, cond_true, i_5, S28 (b32 (by omega)) (b32 (by omega)) (b32 (by omega)), kb1, q176_19, i_0, bIT, decide_eq_true (by omega), cond_true, eqF (by omega), i_1, eqF (by omega), i_2, eqF (by omega), i_3, eqT rfl, i_4, S29 (by omega), kb1, (hr.2.1 a hc.1.1 (by omega)).2.2.2.2, q176_91]
  · refine ⟨ii (jamA A a), fun M X h => ?_, fun M X h => ?_⟩
    · skip
      have hs := h.1.2.1
      have hp := h.1.1
      obtain ⟨s1, ⟨tu, s2⟩, s3, ⟨nx9, s4⟩, s5, s6, s7, s8, s9, s10, s11, s12, s13, s14, s15, s16, s17⟩ := h.1.2.1
      obtain ⟨p1, p2, p3, p4, p5, p6, p7, p8, p9, p10, p11, p12, p13, p14, p15, p16, p17⟩ := h.1.1
      obtain ⟨l0, l1, l2, l3, l4, l5, l6, l7, l8, l9, l10, l11, l12, l13, l14, l15, l16, l17⟩ := stl83
      obtain ⟨m1, m2, m3, m4, m5, m6, m7, m8, m9, m10, m11, m12, m13, m14, m15, m16⟩ := pll49
      refine ⟨M, ?_, h, fun _ _ => rfl⟩
      rw [q229_0, p2, S1 (b32 (by omega)) (by omega), kt1, q229_11, i_0, bIT, decide_eq_true hc.1, cond_true, eqF (by omega), i_1, eqF (by omega), i_2, eqF (by omega), i_3, eqF (by omega), i_4, eqT rfl, S210 (WTof h hz hT).1 hc.1.1 hc.1.2, kt1, q229_120]
    · skip
      have hr : RR (upM M 819 7 (ii 0)) A := RR_k h.1.1 (by funext y; exact up_n (by decide))
      have hw : WR (upM M 819 7 (ii 0)) A T := ⟨hr, hi, by omega, hz.1.2.1⟩
      refine ⟨upM M 819 7 (ii 0), ?_, h.u7 hz, fr7, st7⟩
      rw [q176_0, i_0, S112 hr hi (b32 (by omega)), kb1, q176_10, i_0, bIT, decide_eq_true hc.1, cond_true, i_5, S28 (b32 (by omega)) (b32 (by omega)) (b32 (by omega)), kb1, q176_19, i_0, bIT, decide_eq_true (by omega), cond_true, eqF (by omega), i_1, eqF (by omega), i_2, eqF (by omega), i_3, eqF (by omega), i_4, eqT rfl, S113 hw hc.1.1 hc.1.2, kb1, q176_97]
  · refine ⟨ii (mayA A a), fun M X h => ?_, fun M X h => ?_⟩
    · skip
      have hs := h.1.2.1
      have hp := h.1.1
      obtain ⟨s1, ⟨tu, s2⟩, s3, ⟨nx9, s4⟩, s5, s6, s7, s8, s9, s10, s11, s12, s13, s14, s15, s16, s17⟩ := h.1.2.1
      obtain ⟨p1, p2, p3, p4, p5, p6, p7, p8, p9, p10, p11, p12, p13, p14, p15, p16, p17⟩ := h.1.1
      obtain ⟨l0, l1, l2, l3, l4, l5, l6, l7, l8, l9, l10, l11, l12, l13, l14, l15, l16, l17⟩ := stl83
      obtain ⟨m1, m2, m3, m4, m5, m6, m7, m8, m9, m10, m11, m12, m13, m14, m15, m16⟩ := pll49
      refine ⟨M, ?_, h, fun _ _ => rfl⟩
      rw [q229_0, p2, S1 (b32 (by omega)) (by omega), kt1, q229_11, i_0, bIT, decide_eq_true hc.1, cond_true, eqF (by omega), i_1, eqF (by omega), i_2, eqF (by omega), i_3, eqF (by omega), i_4, eqF (by omega), i_5, eqT rfl, S68 hs stl83 hi hT hc.1.1 hc.1.2, kt1, q229_129]
    · skip
      have hr : RR (upM M 819 7 (ii 0)) A := RR_k h.1.1 (by funext y; exact up_n (by decide))
      have hw : WR (upM M 819 7 (ii 0)) A T := ⟨hr, hi, by omega, hz.1.2.1⟩
      refine ⟨upM M 819 7 (ii 0), ?_, h.u7 hz, fr7, st7⟩
      rw [q176_0, i_0, S112 hr hi (b32 (by omega)), kb1, q176_10, i_0, bIT, decide_eq_true hc.1, cond_true, i_5, S28 (b32 (by omega)) (b32 (by omega)) (b32 (by omega)), kb1, q176_19, i_0, bIT, decide_eq_true (by omega), cond_true, eqF (by omega), i_1, eqF (by omega), i_2, eqF (by omega), i_3, eqF (by omega), i_4, eqF (by omega), S114 hw hc.1.1 hc.1.2, kb1, q176_103]
theorem P_exit_n (hz : ZW T A n Q k I s D f) (hT : T < 1000000) (ha : B32 a) (hb : B32 b) (hc : ¬ ((0 ≤ a ∧ a < A 0 1) ∧ (0 ≤ b ∧ b < 6))) : cT (fun M => CW M A n Q k I s D f) 229 [pR 1 0, pI (ii a), pI (ii b)] 1 ∧ rA (fun M => RWx M A n Q k I s D f) (fun M => RWx M A n Q k I s D f) 176 [pR 13 819, pI (ii a), pI (ii b)] (ii 0) 1 := by
  have hi := hz.1.1
  have g := hi.1
  refine ⟨fun M X h hX => ?_, fun M X h => ⟨upM (upM M 819 7 (ii 0)) 819 7 (ii 1), ?_, (h.u7 hz).u7 hz, fun y hy => by rw [fr7 y hy, fr7 y hy], st7⟩⟩
  · skip
    have hs := h.1.2.1
    have hp := h.1.1
    obtain ⟨s1, ⟨tu, s2⟩, s3, ⟨nx9, s4⟩, s5, s6, s7, s8, s9, s10, s11, s12, s13, s14, s15, s16, s17⟩ := h.1.2.1
    obtain ⟨p1, p2, p3, p4, p5, p6, p7, p8, p9, p10, p11, p12, p13, p14, p15, p16, p17⟩ := h.1.1
    obtain ⟨l0, l1, l2, l3, l4, l5, l6, l7, l8, l9, l10, l11, l12, l13, l14, l15, l16, l17⟩ := stl83
    obtain ⟨m1, m2, m3, m4, m5, m6, m7, m8, m9, m10, m11, m12, m13, m14, m15, m16⟩ := pll49
    rw [q229_0, p2, S1 ha (by omega), kt1, q229_11, i_0, bIT]
    by_cases c1 : 0 ≤ a ∧ a < A 0 1
    · obtain ⟨b1, b2⟩ := hb
      rw [decide_eq_true c1, cond_true, eqF (by omega), i_1, eqF (by omega), i_2, eqF (by omega), i_3, eqF (by omega), i_4, eqF (by omega), i_5, eqF (by omega), thT hX (by decide) (by decide)]
    · rw [decide_eq_false c1, cond_false, thT hX (by decide) (by decide)]
  · skip
    have hr : RR (upM M 819 7 (ii 0)) A := RR_k h.1.1 (by funext y; exact up_n (by decide))
    have hw : WR (upM M 819 7 (ii 0)) A T := ⟨hr, hi, by omega, hz.1.2.1⟩
    rw [q176_0, i_0, S112 hr hi ha, kb1, q176_10, i_0, bIT]
    have fin : ∀ z1 z2, ev true 176 0 22 [pR 13 819, z1, z2] [] (upM M 819 7 (ii 0)) X = some (.inl (some (pI (ii 0))), upM (upM M 819 7 (ii 0)) 819 7 (ii 1), X) := fun z1 z2 => by rw [q176_22, i_1, S27, kb1, q176_27]
    by_cases c1 : 0 ≤ a ∧ a < A 0 1
    · rw [decide_eq_true c1, cond_true, i_5, S28 hb (b32 (by omega)) (b32 (by omega)), kb1, q176_19, i_0, bIT, decide_eq_false (by omega), cond_false, fin]
    · rw [decide_eq_false c1, cond_false, fin]
theorem P_ware_y (hz : ZW T A n Q k I s D f) (hT : T < 1000000)  (hc : (0 ≤ a ∧ a < A 0 2) ∧ (0 ≤ b ∧ b < 5)) : ∃ v : Int32, cA (fun M => CW M A n Q k I s D f) (fun M => CW M A n Q k I s D f) 200 [pR 1 0, pI (ii a), pI (ii b)] v ∧ rA (fun M => RWx M A n Q k I s D f) (fun M => RWx M A n Q k I s D f) 177 [pR 13 819, pI (ii a), pI (ii b)] v 0 := by
  have hi := hz.1.1
  have g := hi.1
  rcases (by omega : b = 0 ∨ b = 1 ∨ b = 2 ∨ b = 3 ∨ b = 4) with rfl | rfl | rfl | rfl | rfl
  · refine ⟨ii (A 26 a), fun M X h => ?_, fun M X h => ?_⟩
    · skip
      have hs := h.1.2.1
      have hp := h.1.1
      obtain ⟨s1, ⟨tu, s2⟩, s3, ⟨nx9, s4⟩, s5, s6, s7, s8, s9, s10, s11, s12, s13, s14, s15, s16, s17⟩ := h.1.2.1
      obtain ⟨p1, p2, p3, p4, p5, p6, p7, p8, p9, p10, p11, p12, p13, p14, p15, p16, p17⟩ := h.1.1
      obtain ⟨l0, l1, l2, l3, l4, l5, l6, l7, l8, l9, l10, l11, l12, l13, l14, l15, l16, l17⟩ := stl83
      obtain ⟨m1, m2, m3, m4, m5, m6, m7, m8, m9, m10, m11, m12, m13, m14, m15, m16⟩ := pll49
      refine ⟨M, ?_, h, fun _ _ => rfl⟩
      rw [q200_0, p3, S1 (b32 (by omega)) (by omega), kt1, q200_11, i_0, bIT, decide_eq_true hc.1, cond_true, eqT rfl, S12 (t := 54) hc.1.1 (by have e9 : rl 54 = 8 := m3; omega), kt1, p9 a hc.1.1 hc.1.2, q200_67]
    · skip
      have hr : RR (upM M 819 7 (ii 0)) A := RR_k h.1.1 (by funext y; exact up_n (by decide))
      have hw : WR (upM M 819 7 (ii 0)) A T := ⟨hr, hi, by omega, hz.1.2.1⟩
      refine ⟨upM M 819 7 (ii 0), ?_, h.u7 hz, fr7, st7⟩
      rw [q177_0, i_0, S115 hr hi (b32 (by omega)), kb1, q177_10, i_0, bIT, decide_eq_true hc.1, cond_true, i_4, S28 (b32 (by omega)) (b32 (by omega)) (b32 (by omega)), kb1, q177_19, i_0, bIT, decide_eq_true (by omega), cond_true, eqT rfl, S30 (by omega), kb1, (hr.2.2.1 a hc.1.1 (by omega)).1, q177_66]
  · refine ⟨ii (A 27 a), fun M X h => ?_, fun M X h => ?_⟩
    · skip
      have hs := h.1.2.1
      have hp := h.1.1
      obtain ⟨s1, ⟨tu, s2⟩, s3, ⟨nx9, s4⟩, s5, s6, s7, s8, s9, s10, s11, s12, s13, s14, s15, s16, s17⟩ := h.1.2.1
      obtain ⟨p1, p2, p3, p4, p5, p6, p7, p8, p9, p10, p11, p12, p13, p14, p15, p16, p17⟩ := h.1.1
      obtain ⟨l0, l1, l2, l3, l4, l5, l6, l7, l8, l9, l10, l11, l12, l13, l14, l15, l16, l17⟩ := stl83
      obtain ⟨m1, m2, m3, m4, m5, m6, m7, m8, m9, m10, m11, m12, m13, m14, m15, m16⟩ := pll49
      refine ⟨M, ?_, h, fun _ _ => rfl⟩
      rw [q200_0, p3, S1 (b32 (by omega)) (by omega), kt1, q200_11, i_0, bIT, decide_eq_true hc.1, cond_true, eqF (by omega), i_1, eqT rfl, S12 (t := 56) hc.1.1 (by have e9 : rl 56 = 8 := m4; omega), kt1, p10 a hc.1.1 hc.1.2, q200_79]
    · skip
      have hr : RR (upM M 819 7 (ii 0)) A := RR_k h.1.1 (by funext y; exact up_n (by decide))
      have hw : WR (upM M 819 7 (ii 0)) A T := ⟨hr, hi, by omega, hz.1.2.1⟩
      refine ⟨upM M 819 7 (ii 0), ?_, h.u7 hz, fr7, st7⟩
      rw [q177_0, i_0, S115 hr hi (b32 (by omega)), kb1, q177_10, i_0, bIT, decide_eq_true hc.1, cond_true, i_4, S28 (b32 (by omega)) (b32 (by omega)) (b32 (by omega)), kb1, q177_19, i_0, bIT, decide_eq_true (by omega), cond_true, eqF (by omega), i_1, eqT rfl, S30 (by omega), kb1, (hr.2.2.1 a hc.1.1 (by omega)).2.1, q177_73]
  · refine ⟨ii (itwA A a), fun M X h => ?_, fun M X h => ?_⟩
    · skip
      have hs := h.1.2.1
      have hp := h.1.1
      obtain ⟨s1, ⟨tu, s2⟩, s3, ⟨nx9, s4⟩, s5, s6, s7, s8, s9, s10, s11, s12, s13, s14, s15, s16, s17⟩ := h.1.2.1
      obtain ⟨p1, p2, p3, p4, p5, p6, p7, p8, p9, p10, p11, p12, p13, p14, p15, p16, p17⟩ := h.1.1
      obtain ⟨l0, l1, l2, l3, l4, l5, l6, l7, l8, l9, l10, l11, l12, l13, l14, l15, l16, l17⟩ := stl83
      obtain ⟨m1, m2, m3, m4, m5, m6, m7, m8, m9, m10, m11, m12, m13, m14, m15, m16⟩ := pll49
      refine ⟨M, ?_, h, fun _ _ => rfl⟩
      rw [q200_0, p3, S1 (b32 (by omega)) (by omega), kt1, q200_11, i_0, bIT, decide_eq_true hc.1, cond_true, eqF (by omega), i_1, eqF (by omega), i_2, eqT rfl, show ev true 83 0 0 [pR 9 84, pI (ii a), p0, p0] [] M X = _ from S83 hs stl83 hi (by omega), kt1, q200_91]
    · skip
      have hr : RR (upM M 819 7 (ii 0)) A := RR_k h.1.1 (by funext y; exact up_n (by decide))
      have hw : WR (upM M 819 7 (ii 0)) A T := ⟨hr, hi, by omega, hz.1.2.1⟩
      refine ⟨upM M 819 7 (ii 0), ?_, h.u7 hz, fr7, st7⟩
      rw [q177_0, i_0, S115 hr hi (b32 (by omega)), kb1, q177_10, i_0, bIT, decide_eq_true hc.1, cond_true, i_4, S28 (b32 (by omega)) (b32 (by omega)) (b32 (by omega)), kb1, q177_19, i_0, bIT, decide_eq_true (by omega), cond_true, eqF (by omega), i_1, eqF (by omega), i_2, eqT rfl, S107 hw (by omega), kb1, q177_79, if_neg (by omega)]
  · refine ⟨ii (waiA A a), fun M X h => ?_, fun M X h => ?_⟩
    · skip
      have hs := h.1.2.1
      have hp := h.1.1
      obtain ⟨s1, ⟨tu, s2⟩, s3, ⟨nx9, s4⟩, s5, s6, s7, s8, s9, s10, s11, s12, s13, s14, s15, s16, s17⟩ := h.1.2.1
      obtain ⟨p1, p2, p3, p4, p5, p6, p7, p8, p9, p10, p11, p12, p13, p14, p15, p16, p17⟩ := h.1.1
      obtain ⟨l0, l1, l2, l3, l4, l5, l6, l7, l8, l9, l10, l11, l12, l13, l14, l15, l16, l17⟩ := stl83
      obtain ⟨m1, m2, m3, m4, m5, m6, m7, m8, m9, m10, m11, m12, m13, m14, m15, m16⟩ := pll49
      refine ⟨M, ?_, h, fun _ _ => rfl⟩
      rw [q200_0, p3, S1 (b32 (by omega)) (by omega), kt1, q200_11, i_0, bIT, decide_eq_true hc.1, cond_true, eqF (by omega), i_1, eqF (by omega), i_2, eqF (by omega), i_3, eqT rfl, show ev true 166 0 0 [pR 10 97, pI (ii a), p0, p0, p0] [] M X = _ from S166 hs stl83 hi (by omega), kt1, q200_103]
    · skip
      have hr : RR (upM M 819 7 (ii 0)) A := RR_k h.1.1 (by funext y; exact up_n (by decide))
      have hw : WR (upM M 819 7 (ii 0)) A T := ⟨hr, hi, by omega, hz.1.2.1⟩
      refine ⟨upM M 819 7 (ii 0), ?_, h.u7 hz, fr7, st7⟩
      rw [q177_0, i_0, S115 hr hi (b32 (by omega)), kb1, q177_10, i_0, bIT, decide_eq_true hc.1, cond_true, i_4, S28 (b32 (by omega)) (b32 (by omega)) (b32 (by omega)), kb1, q177_19, i_0, bIT, decide_eq_true (by omega), cond_true, eqF (by omega), i_1, eqF (by omega), i_2, eqF (by omega), i_3, eqT rfl, S109 hw (by omega), kb1, q177_85, wr_wt (by omega), show wtS A a (A 0 3).toNat = waiA A a from rfl]
  · refine ⟨ii (A 28 a), fun M X h => ?_, fun M X h => ?_⟩
    · skip
      have hs := h.1.2.1
      have hp := h.1.1
      obtain ⟨s1, ⟨tu, s2⟩, s3, ⟨nx9, s4⟩, s5, s6, s7, s8, s9, s10, s11, s12, s13, s14, s15, s16, s17⟩ := h.1.2.1
      obtain ⟨p1, p2, p3, p4, p5, p6, p7, p8, p9, p10, p11, p12, p13, p14, p15, p16, p17⟩ := h.1.1
      obtain ⟨l0, l1, l2, l3, l4, l5, l6, l7, l8, l9, l10, l11, l12, l13, l14, l15, l16, l17⟩ := stl83
      obtain ⟨m1, m2, m3, m4, m5, m6, m7, m8, m9, m10, m11, m12, m13, m14, m15, m16⟩ := pll49
      refine ⟨M, ?_, h, fun _ _ => rfl⟩
      rw [q200_0, p3, S1 (b32 (by omega)) (by omega), kt1, q200_11, i_0, bIT, decide_eq_true hc.1, cond_true, eqF (by omega), i_1, eqF (by omega), i_2, eqF (by omega), i_3, eqF (by omega), i_4, eqT rfl, S12 (t := 128) hc.1.1 (by have e9 : rl 128 = 8 := l16; omega), kt1, s17 a hc.1.1 hc.1.2, q200_115]
    · skip
      have hr : RR (upM M 819 7 (ii 0)) A := RR_k h.1.1 (by funext y; exact up_n (by decide))
      have hw : WR (upM M 819 7 (ii 0)) A T := ⟨hr, hi, by omega, hz.1.2.1⟩
      refine ⟨upM M 819 7 (ii 0), ?_, h.u7 hz, fr7, st7⟩
      rw [q177_0, i_0, S115 hr hi (b32 (by omega)), kb1, q177_10, i_0, bIT, decide_eq_true hc.1, cond_true, i_4, S28 (b32 (by omega)) (b32 (by omega)) (b32 (by omega)), kb1, q177_19, i_0, bIT, decide_eq_true (by omega), cond_true, eqF (by omega), i_1, eqF (by omega), i_2, eqF (by omega), i_3, eqF (by omega), S30 (by omega), kb1, (hr.2.2.1 a hc.1.1 (by omega)).2.2, q177_92]
theorem P_ware_n (hz : ZW T A n Q k I s D f) (hT : T < 1000000) (ha : B32 a) (hb : B32 b) (hc : ¬ ((0 ≤ a ∧ a < A 0 2) ∧ (0 ≤ b ∧ b < 5))) : cT (fun M => CW M A n Q k I s D f) 200 [pR 1 0, pI (ii a), pI (ii b)] 1 ∧ rA (fun M => RWx M A n Q k I s D f) (fun M => RWx M A n Q k I s D f) 177 [pR 13 819, pI (ii a), pI (ii b)] (ii 0) 1 := by
  have hi := hz.1.1
  have g := hi.1
  refine ⟨fun M X h hX => ?_, fun M X h => ⟨upM (upM M 819 7 (ii 0)) 819 7 (ii 1), ?_, (h.u7 hz).u7 hz, fun y hy => by rw [fr7 y hy, fr7 y hy], st7⟩⟩
  · skip
    have hs := h.1.2.1
    have hp := h.1.1
    obtain ⟨s1, ⟨tu, s2⟩, s3, ⟨nx9, s4⟩, s5, s6, s7, s8, s9, s10, s11, s12, s13, s14, s15, s16, s17⟩ := h.1.2.1
    obtain ⟨p1, p2, p3, p4, p5, p6, p7, p8, p9, p10, p11, p12, p13, p14, p15, p16, p17⟩ := h.1.1
    obtain ⟨l0, l1, l2, l3, l4, l5, l6, l7, l8, l9, l10, l11, l12, l13, l14, l15, l16, l17⟩ := stl83
    obtain ⟨m1, m2, m3, m4, m5, m6, m7, m8, m9, m10, m11, m12, m13, m14, m15, m16⟩ := pll49
    rw [q200_0, p3, S1 ha (by omega), kt1, q200_11, i_0, bIT]
    by_cases c1 : 0 ≤ a ∧ a < A 0 2
    · obtain ⟨b1, b2⟩ := hb
      rw [decide_eq_true c1, cond_true, eqF (by omega), i_1, eqF (by omega), i_2, eqF (by omega), i_3, eqF (by omega), i_4, eqF (by omega), thT hX (by decide) (by decide)]
    · rw [decide_eq_false c1, cond_false, thT hX (by decide) (by decide)]
  · skip
    have hr : RR (upM M 819 7 (ii 0)) A := RR_k h.1.1 (by funext y; exact up_n (by decide))
    have hw : WR (upM M 819 7 (ii 0)) A T := ⟨hr, hi, by omega, hz.1.2.1⟩
    rw [q177_0, i_0, S115 hr hi ha, kb1, q177_10, i_0, bIT]
    have fin : ∀ z1 z2, ev true 177 0 22 [pR 13 819, z1, z2] [] (upM M 819 7 (ii 0)) X = some (.inl (some (pI (ii 0))), upM (upM M 819 7 (ii 0)) 819 7 (ii 1), X) := fun z1 z2 => by rw [q177_22, i_1, S27, kb1, q177_27]
    by_cases c1 : 0 ≤ a ∧ a < A 0 2
    · rw [decide_eq_true c1, cond_true, i_4, S28 hb (b32 (by omega)) (b32 (by omega)), kb1, q177_19, i_0, bIT, decide_eq_false (by omega), cond_false, fin]
    · rw [decide_eq_false c1, cond_false, fin]
theorem P_side_y (hz : ZW T A n Q k I s D f) (hT : T < 1000000)  (hc : (0 ≤ a ∧ a < A 0 3) ∧ (0 ≤ b ∧ b < 14)) : ∃ v : Int32, cA (fun M => CW M A n Q k I s D f) (fun M => CW M A n Q k I s D f) 201 [pR 1 0, pI (ii a), pI (ii b)] v ∧ rA (fun M => RWx M A n Q k I s D f) (fun M => RWx M A n Q k I s D f) 286 [pR 13 819, pI (ii a), pI (ii b)] v 0 := by
  have hi := hz.1.1
  have g := hi.1
  rcases (by omega : b = 0 ∨ b = 1 ∨ b = 2 ∨ b = 3 ∨ b = 4 ∨ b = 5 ∨ b = 6 ∨ b = 7 ∨ b = 8 ∨ b = 9 ∨ b = 10 ∨ b = 11 ∨ b = 12 ∨ b = 13) with rfl | rfl | rfl | rfl | rfl | rfl | rfl | rfl | rfl | rfl | rfl | rfl | rfl | rfl
  · refine ⟨ii (A 40 a), fun M X h => ?_, fun M X h => ?_⟩
    · skip
      have hs := h.1.2.1
      have hp := h.1.1
      obtain ⟨s1, ⟨tu, s2⟩, s3, ⟨nx9, s4⟩, s5, s6, s7, s8, s9, s10, s11, s12, s13, s14, s15, s16, s17⟩ := h.1.2.1
      obtain ⟨p1, p2, p3, p4, p5, p6, p7, p8, p9, p10, p11, p12, p13, p14, p15, p16, p17⟩ := h.1.1
      obtain ⟨l0, l1, l2, l3, l4, l5, l6, l7, l8, l9, l10, l11, l12, l13, l14, l15, l16, l17⟩ := stl83
      obtain ⟨m1, m2, m3, m4, m5, m6, m7, m8, m9, m10, m11, m12, m13, m14, m15, m16⟩ := pll49
      refine ⟨M, ?_, h, fun _ _ => rfl⟩
      rw [q201_0, p4, S1 (b32 (by omega)) (by omega), kt1, q201_11, i_0, bIT, decide_eq_true hc.1, cond_true, eqT rfl, S12 (t := 58) hc.1.1 (by have e9 : rl 58 = 6 := m5; omega), kt1, p11 a hc.1.1 hc.1.2, q201_103]
    · skip
      have hr : RR (upM M 819 7 (ii 0)) A := RR_k h.1.1 (by funext y; exact up_n (by decide))
      have hw : WR (upM M 819 7 (ii 0)) A T := ⟨hr, hi, by omega, hz.1.2.1⟩
      refine ⟨upM M 819 7 (ii 0), ?_, h.u7 hz, fr7, st7⟩
      rw [q286_0, i_0, S116 hr hi (b32 (by omega)), kb1, q286_10, i_0, bIT, decide_eq_true hc.1, cond_true, i_13, S28 (b32 (by omega)) (b32 (by omega)) (b32 (by omega)), kb1, q286_20, i_0, bIT, decide_eq_true (by omega), cond_true, i_5, eqF (by omega), i_6, eqF (by omega), i_7, eqF (by omega), i_8, eqF (by omega), i_9, eqF (by omega), i_10, eqF (by omega), i_11, eqF (by omega), i_12, eqF (by omega), i_13, eqF (by omega), S25 (by omega), kb1, (hr.2.2.2.1 a hc.1.1 (by omega)).1, q286_130]
  · refine ⟨ii (A 41 a), fun M X h => ?_, fun M X h => ?_⟩
    · skip
      have hs := h.1.2.1
      have hp := h.1.1
      obtain ⟨s1, ⟨tu, s2⟩, s3, ⟨nx9, s4⟩, s5, s6, s7, s8, s9, s10, s11, s12, s13, s14, s15, s16, s17⟩ := h.1.2.1
      obtain ⟨p1, p2, p3, p4, p5, p6, p7, p8, p9, p10, p11, p12, p13, p14, p15, p16, p17⟩ := h.1.1
      obtain ⟨l0, l1, l2, l3, l4, l5, l6, l7, l8, l9, l10, l11, l12, l13, l14, l15, l16, l17⟩ := stl83
      obtain ⟨m1, m2, m3, m4, m5, m6, m7, m8, m9, m10, m11, m12, m13, m14, m15, m16⟩ := pll49
      refine ⟨M, ?_, h, fun _ _ => rfl⟩
      rw [q201_0, p4, S1 (b32 (by omega)) (by omega), kt1, q201_11, i_0, bIT, decide_eq_true hc.1, cond_true, eqF (by omega), i_1, eqT rfl, S12 (t := 104) hc.1.1 (by have e9 : rl 104 = 6 := l4; omega), kt1, s5 a hc.1.1 hc.1.2, q201_115]
    · skip
      have hr : RR (upM M 819 7 (ii 0)) A := RR_k h.1.1 (by funext y; exact up_n (by decide))
      have hw : WR (upM M 819 7 (ii 0)) A T := ⟨hr, hi, by omega, hz.1.2.1⟩
      refine ⟨upM M 819 7 (ii 0), ?_, h.u7 hz, fr7, st7⟩
      rw [q286_0, i_0, S116 hr hi (b32 (by omega)), kb1, q286_10, i_0, bIT, decide_eq_true hc.1, cond_true, i_13, S28 (b32 (by omega)) (b32 (by omega)) (b32 (by omega)), kb1, q286_20, i_0, bIT, decide_eq_true (by omega), cond_true, i_5, eqF (by omega), i_6, eqF (by omega), i_7, eqF (by omega), i_8, eqF (by omega), i_9, eqF (by omega), i_10, eqF (by omega), i_11, eqF (by omega), i_12, eqF (by omega), i_13, eqF (by omega), S25 (by omega), kb1, (hr.2.2.2.1 a hc.1.1 (by omega)).2.1, q286_130]
  · refine ⟨ii (A 42 a), fun M X h => ?_, fun M X h => ?_⟩
    · skip
      have hs := h.1.2.1
      have hp := h.1.1
      obtain ⟨s1, ⟨tu, s2⟩, s3, ⟨nx9, s4⟩, s5, s6, s7, s8, s9, s10, s11, s12, s13, s14, s15, s16, s17⟩ := h.1.2.1
      obtain ⟨p1, p2, p3, p4, p5, p6, p7, p8, p9, p10, p11, p12, p13, p14, p15, p16, p17⟩ := h.1.1
      obtain ⟨l0, l1, l2, l3, l4, l5, l6, l7, l8, l9, l10, l11, l12, l13, l14, l15, l16, l17⟩ := stl83
      obtain ⟨m1, m2, m3, m4, m5, m6, m7, m8, m9, m10, m11, m12, m13, m14, m15, m16⟩ := pll49
      refine ⟨M, ?_, h, fun _ _ => rfl⟩
      rw [q201_0, p4, S1 (b32 (by omega)) (by omega), kt1, q201_11, i_0, bIT, decide_eq_true hc.1, cond_true, eqF (by omega), i_1, eqF (by omega), i_2, eqT rfl, S12 (t := 106) hc.1.1 (by have e9 : rl 106 = 6 := l5; omega), kt1, s6 a hc.1.1 hc.1.2, q201_127]
    · skip
      have hr : RR (upM M 819 7 (ii 0)) A := RR_k h.1.1 (by funext y; exact up_n (by decide))
      have hw : WR (upM M 819 7 (ii 0)) A T := ⟨hr, hi, by omega, hz.1.2.1⟩
      refine ⟨upM M 819 7 (ii 0), ?_, h.u7 hz, fr7, st7⟩
      rw [q286_0, i_0, S116 hr hi (b32 (by omega)), kb1, q286_10, i_0, bIT, decide_eq_true hc.1, cond_true, i_13, S28 (b32 (by omega)) (b32 (by omega)) (b32 (by omega)), kb1, q286_20, i_0, bIT, decide_eq_true (by omega), cond_true, i_5, eqF (by omega), i_6, eqF (by omega), i_7, eqF (by omega), i_8, eqF (by omega), i_9, eqF (by omega), i_10, eqF (by omega), i_11, eqF (by omega), i_12, eqF (by omega), i_13, eqF (by omega), S25 (by omega), kb1, (hr.2.2.2.1 a hc.1.1 (by omega)).2.2.1, q286_130]
  · refine ⟨ii (A 43 a), fun M X h => ?_, fun M X h => ?_⟩
    · skip
      have hs := h.1.2.1
      have hp := h.1.1
      obtain ⟨s1, ⟨tu, s2⟩, s3, ⟨nx9, s4⟩, s5, s6, s7, s8, s9, s10, s11, s12, s13, s14, s15, s16, s17⟩ := h.1.2.1
      obtain ⟨p1, p2, p3, p4, p5, p6, p7, p8, p9, p10, p11, p12, p13, p14, p15, p16, p17⟩ := h.1.1
      obtain ⟨l0, l1, l2, l3, l4, l5, l6, l7, l8, l9, l10, l11, l12, l13, l14, l15, l16, l17⟩ := stl83
      obtain ⟨m1, m2, m3, m4, m5, m6, m7, m8, m9, m10, m11, m12, m13, m14, m15, m16⟩ := pll49
      refine ⟨M, ?_, h, fun _ _ => rfl⟩
      rw [q201_0, p4, S1 (b32 (by omega)) (by omega), kt1, q201_11, i_0, bIT, decide_eq_true hc.1, cond_true, eqF (by omega), i_1, eqF (by omega), i_2, eqF (by omega), i_3, eqT rfl, S12 (t := 108) hc.1.1 (by have e9 : rl 108 = 6 := l6; omega), kt1, s7 a hc.1.1 hc.1.2, q201_139]
    · skip
      have hr : RR (upM M 819 7 (ii 0)) A := RR_k h.1.1 (by funext y; exact up_n (by decide))
      have hw : WR (upM M 819 7 (ii 0)) A T := ⟨hr, hi, by omega, hz.1.2.1⟩
      refine ⟨upM M 819 7 (ii 0), ?_, h.u7 hz, fr7, st7⟩
      rw [q286_0, i_0, S116 hr hi (b32 (by omega)), kb1, q286_10, i_0, bIT, decide_eq_true hc.1, cond_true, i_13, S28 (b32 (by omega)) (b32 (by omega)) (b32 (by omega)), kb1, q286_20, i_0, bIT, decide_eq_true (by omega), cond_true, i_5, eqF (by omega), i_6, eqF (by omega), i_7, eqF (by omega), i_8, eqF (by omega), i_9, eqF (by omega), i_10, eqF (by omega), i_11, eqF (by omega), i_12, eqF (by omega), i_13, eqF (by omega), S25 (by omega), kb1, (hr.2.2.2.1 a hc.1.1 (by omega)).2.2.2.1, q286_130]
  · refine ⟨ii (A 44 a), fun M X h => ?_, fun M X h => ?_⟩
    · skip
      have hs := h.1.2.1
      have hp := h.1.1
      obtain ⟨s1, ⟨tu, s2⟩, s3, ⟨nx9, s4⟩, s5, s6, s7, s8, s9, s10, s11, s12, s13, s14, s15, s16, s17⟩ := h.1.2.1
      obtain ⟨p1, p2, p3, p4, p5, p6, p7, p8, p9, p10, p11, p12, p13, p14, p15, p16, p17⟩ := h.1.1
      obtain ⟨l0, l1, l2, l3, l4, l5, l6, l7, l8, l9, l10, l11, l12, l13, l14, l15, l16, l17⟩ := stl83
      obtain ⟨m1, m2, m3, m4, m5, m6, m7, m8, m9, m10, m11, m12, m13, m14, m15, m16⟩ := pll49
      refine ⟨M, ?_, h, fun _ _ => rfl⟩
      rw [q201_0, p4, S1 (b32 (by omega)) (by omega), kt1, q201_11, i_0, bIT, decide_eq_true hc.1, cond_true, eqF (by omega), i_1, eqF (by omega), i_2, eqF (by omega), i_3, eqF (by omega), i_4, eqT rfl, S12 (t := 102) hc.1.1 (by have e9 : rl 102 = 6 := l3; omega), kt1, show cl M 102 a = ii (A 44 a) from (s3 a hc.1.1 (by omega)).2.2.1, q201_154]
    · skip
      have hr : RR (upM M 819 7 (ii 0)) A := RR_k h.1.1 (by funext y; exact up_n (by decide))
      have hw : WR (upM M 819 7 (ii 0)) A T := ⟨hr, hi, by omega, hz.1.2.1⟩
      refine ⟨upM M 819 7 (ii 0), ?_, h.u7 hz, fr7, st7⟩
      rw [q286_0, i_0, S116 hr hi (b32 (by omega)), kb1, q286_10, i_0, bIT, decide_eq_true hc.1, cond_true, i_13, S28 (b32 (by omega)) (b32 (by omega)) (b32 (by omega)), kb1, q286_20, i_0, bIT, decide_eq_true (by omega), cond_true, i_5, eqF (by omega), i_6, eqF (by omega), i_7, eqF (by omega), i_8, eqF (by omega), i_9, eqF (by omega), i_10, eqF (by omega), i_11, eqF (by omega), i_12, eqF (by omega), i_13, eqF (by omega), S25 (by omega), kb1, (hr.2.2.2.1 a hc.1.1 (by omega)).2.2.2.2.1, q286_130]
  · refine ⟨ii (A 90 a), fun M X h => ?_, fun M X h => ?_⟩
    · skip
      have hs := h.1.2.1
      have hp := h.1.1
      obtain ⟨s1, ⟨tu, s2⟩, s3, ⟨nx9, s4⟩, s5, s6, s7, s8, s9, s10, s11, s12, s13, s14, s15, s16, s17⟩ := h.1.2.1
      obtain ⟨p1, p2, p3, p4, p5, p6, p7, p8, p9, p10, p11, p12, p13, p14, p15, p16, p17⟩ := h.1.1
      obtain ⟨l0, l1, l2, l3, l4, l5, l6, l7, l8, l9, l10, l11, l12, l13, l14, l15, l16, l17⟩ := stl83
      obtain ⟨m1, m2, m3, m4, m5, m6, m7, m8, m9, m10, m11, m12, m13, m14, m15, m16⟩ := pll49
      refine ⟨M, ?_, h, fun _ _ => rfl⟩
      rw [q201_0, p4, S1 (b32 (by omega)) (by omega), kt1, q201_11, i_0, bIT, decide_eq_true hc.1, cond_true, eqF (by omega), i_1, eqF (by omega), i_2, eqF (by omega), i_3, eqF (by omega), i_4, eqF (by omega), i_5, eqT rfl, S12 (t := 112) hc.1.1 (by have e9 : rl 112 = 6 := l8; omega), kt1, s9 a hc.1.1 hc.1.2, q201_166]
    · skip
      have hr : RR (upM M 819 7 (ii 0)) A := RR_k h.1.1 (by funext y; exact up_n (by decide))
      have hw : WR (upM M 819 7 (ii 0)) A T := ⟨hr, hi, by omega, hz.1.2.1⟩
      refine ⟨upM M 819 7 (ii 0), ?_, h.u7 hz, fr7, st7⟩
      rw [q286_0, i_0, S116 hr hi (b32 (by omega)), kb1, q286_10, i_0, bIT, decide_eq_true hc.1, cond_true, i_13, S28 (b32 (by omega)) (b32 (by omega)) (b32 (by omega)), kb1, q286_20, i_0, bIT, decide_eq_true (by omega), cond_true, i_5, eqT rfl, S117 hw hc.1.1 hc.1.2, kb1, q286_85]
  · refine ⟨ii (A 45 a), fun M X h => ?_, fun M X h => ?_⟩
    · skip
      have hs := h.1.2.1
      have hp := h.1.1
      obtain ⟨s1, ⟨tu, s2⟩, s3, ⟨nx9, s4⟩, s5, s6, s7, s8, s9, s10, s11, s12, s13, s14, s15, s16, s17⟩ := h.1.2.1
      obtain ⟨p1, p2, p3, p4, p5, p6, p7, p8, p9, p10, p11, p12, p13, p14, p15, p16, p17⟩ := h.1.1
      obtain ⟨l0, l1, l2, l3, l4, l5, l6, l7, l8, l9, l10, l11, l12, l13, l14, l15, l16, l17⟩ := stl83
      obtain ⟨m1, m2, m3, m4, m5, m6, m7, m8, m9, m10, m11, m12, m13, m14, m15, m16⟩ := pll49
      refine ⟨M, ?_, h, fun _ _ => rfl⟩
      rw [q201_0, p4, S1 (b32 (by omega)) (by omega), kt1, q201_11, i_0, bIT, decide_eq_true hc.1, cond_true, eqF (by omega), i_1, eqF (by omega), i_2, eqF (by omega), i_3, eqF (by omega), i_4, eqF (by omega), i_5, eqF (by omega), i_6, eqT rfl, S12 (t := 110) hc.1.1 (by have e9 : rl 110 = 6 := l7; omega), kt1, s8 a hc.1.1 hc.1.2, q201_178]
    · skip
      have hr : RR (upM M 819 7 (ii 0)) A := RR_k h.1.1 (by funext y; exact up_n (by decide))
      have hw : WR (upM M 819 7 (ii 0)) A T := ⟨hr, hi, by omega, hz.1.2.1⟩
      refine ⟨upM M 819 7 (ii 0), ?_, h.u7 hz, fr7, st7⟩
      rw [q286_0, i_0, S116 hr hi (b32 (by omega)), kb1, q286_10, i_0, bIT, decide_eq_true hc.1, cond_true, i_13, S28 (b32 (by omega)) (b32 (by omega)) (b32 (by omega)), kb1, q286_20, i_0, bIT, decide_eq_true (by omega), cond_true, i_5, eqF (by omega), i_6, eqT rfl, S25 (by omega), kb1, (hr.2.2.2.1 a hc.1.1 (by omega)).2.2.2.2.2.1, q286_92]
  · refine ⟨ii (lateA A a), fun M X h => ?_, fun M X h => ?_⟩
    · skip
      have hs := h.1.2.1
      have hp := h.1.1
      obtain ⟨s1, ⟨tu, s2⟩, s3, ⟨nx9, s4⟩, s5, s6, s7, s8, s9, s10, s11, s12, s13, s14, s15, s16, s17⟩ := h.1.2.1
      obtain ⟨p1, p2, p3, p4, p5, p6, p7, p8, p9, p10, p11, p12, p13, p14, p15, p16, p17⟩ := h.1.1
      obtain ⟨l0, l1, l2, l3, l4, l5, l6, l7, l8, l9, l10, l11, l12, l13, l14, l15, l16, l17⟩ := stl83
      obtain ⟨m1, m2, m3, m4, m5, m6, m7, m8, m9, m10, m11, m12, m13, m14, m15, m16⟩ := pll49
      refine ⟨M, ?_, h, fun _ _ => rfl⟩
      rw [q201_0, p4, S1 (b32 (by omega)) (by omega), kt1, q201_11, i_0, bIT, decide_eq_true hc.1, cond_true, eqF (by omega), i_1, eqF (by omega), i_2, eqF (by omega), i_3, eqF (by omega), i_4, eqF (by omega), i_5, eqF (by omega), i_6, eqF (by omega), i_7, eqT rfl, S69 hs stl83 hi hc.1.1 hc.1.2, kt1, q201_187]
    · skip
      have hr : RR (upM M 819 7 (ii 0)) A := RR_k h.1.1 (by funext y; exact up_n (by decide))
      have hw : WR (upM M 819 7 (ii 0)) A T := ⟨hr, hi, by omega, hz.1.2.1⟩
      refine ⟨upM M 819 7 (ii 0), ?_, h.u7 hz, fr7, st7⟩
      rw [q286_0, i_0, S116 hr hi (b32 (by omega)), kb1, q286_10, i_0, bIT, decide_eq_true hc.1, cond_true, i_13, S28 (b32 (by omega)) (b32 (by omega)) (b32 (by omega)), kb1, q286_20, i_0, bIT, decide_eq_true (by omega), cond_true, i_5, eqF (by omega), i_6, eqF (by omega), i_7, eqT rfl, S118 hw hc.1.1 hc.1.2, kb1, q286_98]
  · refine ⟨ii (urgA A a), fun M X h => ?_, fun M X h => ?_⟩
    · skip
      have hs := h.1.2.1
      have hp := h.1.1
      obtain ⟨s1, ⟨tu, s2⟩, s3, ⟨nx9, s4⟩, s5, s6, s7, s8, s9, s10, s11, s12, s13, s14, s15, s16, s17⟩ := h.1.2.1
      obtain ⟨p1, p2, p3, p4, p5, p6, p7, p8, p9, p10, p11, p12, p13, p14, p15, p16, p17⟩ := h.1.1
      obtain ⟨l0, l1, l2, l3, l4, l5, l6, l7, l8, l9, l10, l11, l12, l13, l14, l15, l16, l17⟩ := stl83
      obtain ⟨m1, m2, m3, m4, m5, m6, m7, m8, m9, m10, m11, m12, m13, m14, m15, m16⟩ := pll49
      refine ⟨M, ?_, h, fun _ _ => rfl⟩
      rw [q201_0, p4, S1 (b32 (by omega)) (by omega), kt1, q201_11, i_0, bIT, decide_eq_true hc.1, cond_true, eqF (by omega), i_1, eqF (by omega), i_2, eqF (by omega), i_3, eqF (by omega), i_4, eqF (by omega), i_5, eqF (by omega), i_6, eqF (by omega), i_7, eqF (by omega), i_8, eqT rfl, S70 hp pll49 hs stl83 hi hc.1.1 hc.1.2, kt1, q201_200]
    · skip
      have hr : RR (upM M 819 7 (ii 0)) A := RR_k h.1.1 (by funext y; exact up_n (by decide))
      have hw : WR (upM M 819 7 (ii 0)) A T := ⟨hr, hi, by omega, hz.1.2.1⟩
      refine ⟨upM M 819 7 (ii 0), ?_, h.u7 hz, fr7, st7⟩
      rw [q286_0, i_0, S116 hr hi (b32 (by omega)), kb1, q286_10, i_0, bIT, decide_eq_true hc.1, cond_true, i_13, S28 (b32 (by omega)) (b32 (by omega)) (b32 (by omega)), kb1, q286_20, i_0, bIT, decide_eq_true (by omega), cond_true, i_5, eqF (by omega), i_6, eqF (by omega), i_7, eqF (by omega), i_8, eqT rfl, S119 hw hc.1.1 hc.1.2, kb1, q286_104]
  · refine ⟨rkA A a, fun M X h => ?_, fun M X h => ?_⟩
    · skip
      have hs := h.1.2.1
      have hp := h.1.1
      obtain ⟨s1, ⟨tu, s2⟩, s3, ⟨nx9, s4⟩, s5, s6, s7, s8, s9, s10, s11, s12, s13, s14, s15, s16, s17⟩ := h.1.2.1
      obtain ⟨p1, p2, p3, p4, p5, p6, p7, p8, p9, p10, p11, p12, p13, p14, p15, p16, p17⟩ := h.1.1
      obtain ⟨l0, l1, l2, l3, l4, l5, l6, l7, l8, l9, l10, l11, l12, l13, l14, l15, l16, l17⟩ := stl83
      obtain ⟨m1, m2, m3, m4, m5, m6, m7, m8, m9, m10, m11, m12, m13, m14, m15, m16⟩ := pll49
      obtain ⟨M1, e1, e2⟩ := S157 (X := X) (WTof h hz hT).1 hz.1.2.2.1 hc.1.1 hc.1.2
      refine ⟨M1, ?_, h.mv ⟨PLv_k h.1.1 (fun y _ _ c1 c2 => e2 y c1 c2) SP.rf, STv_k h.1.2.1 (fun y c1 c2 => e2 y (by omega) (by omega)) rfl, by rw [e2 83 (by omega) (by omega)]; exact h.1.2.2⟩ (fun y _ _ c1 c2 => e2 y c1 c2), fun y hy => e2 y (by omega) (by omega)⟩
      rw [q201_0, p4, S1 (b32 (by omega)) (by omega), kt1, q201_11, i_0, bIT, decide_eq_true hc.1, cond_true, eqF (by omega), i_1, eqF (by omega), i_2, eqF (by omega), i_3, eqF (by omega), i_4, eqF (by omega), i_5, eqF (by omega), i_6, eqF (by omega), i_7, eqF (by omega), i_8, eqF (by omega), i_9, eqT rfl, e1, kt1, q201_213]
    · skip
      have hr : RR (upM M 819 7 (ii 0)) A := RR_k h.1.1 (by funext y; exact up_n (by decide))
      have hw : WR (upM M 819 7 (ii 0)) A T := ⟨hr, hi, by omega, hz.1.2.1⟩
      obtain ⟨M1, e1, e2, e3⟩ := S285 (X := X) hw (TXT.cp h.1.2.1 (fun z _ _ _ => rr_un (by decide)) SP.rf) hc.1.1 hc.1.2
      have h7 := h.u7 (v := ii 0) hz
      refine ⟨M1, ?_, h7.mv hz (h7.1.mv hi (fun z _ _ => rr_at e2) (e3.2.1 8 (by decide) (by decide))) (FrN.r e3), fun y hy => by rw [e3.1 y (by omega) (by omega) (by omega), fr7 y hy], by rw [e3.2.1 7 (by decide) (by decide), st7]⟩
      rw [q286_0, i_0, S116 hr hi (b32 (by omega)), kb1, q286_10, i_0, bIT, decide_eq_true hc.1, cond_true, i_13, S28 (b32 (by omega)) (b32 (by omega)) (b32 (by omega)), kb1, q286_20, i_0, bIT, decide_eq_true (by omega), cond_true, i_5, eqF (by omega), i_6, eqF (by omega), i_7, eqF (by omega), i_8, eqF (by omega), i_9, eqT rfl, e1, kb1, q286_110]
  · refine ⟨ii (A 46 a), fun M X h => ?_, fun M X h => ?_⟩
    · skip
      have hs := h.1.2.1
      have hp := h.1.1
      obtain ⟨s1, ⟨tu, s2⟩, s3, ⟨nx9, s4⟩, s5, s6, s7, s8, s9, s10, s11, s12, s13, s14, s15, s16, s17⟩ := h.1.2.1
      obtain ⟨p1, p2, p3, p4, p5, p6, p7, p8, p9, p10, p11, p12, p13, p14, p15, p16, p17⟩ := h.1.1
      obtain ⟨l0, l1, l2, l3, l4, l5, l6, l7, l8, l9, l10, l11, l12, l13, l14, l15, l16, l17⟩ := stl83
      obtain ⟨m1, m2, m3, m4, m5, m6, m7, m8, m9, m10, m11, m12, m13, m14, m15, m16⟩ := pll49
      refine ⟨M, ?_, h, fun _ _ => rfl⟩
      rw [q201_0, p4, S1 (b32 (by omega)) (by omega), kt1, q201_11, i_0, bIT, decide_eq_true hc.1, cond_true, eqF (by omega), i_1, eqF (by omega), i_2, eqF (by omega), i_3, eqF (by omega), i_4, eqF (by omega), i_5, eqF (by omega), i_6, eqF (by omega), i_7, eqF (by omega), i_8, eqF (by omega), i_9, eqF (by omega), i_10, eqT rfl, S12 (t := 114) hc.1.1 (by have e9 : rl 114 = 6 := l9; omega), kt1, s10 a hc.1.1 hc.1.2, q201_225]
    · skip
      have hr : RR (upM M 819 7 (ii 0)) A := RR_k h.1.1 (by funext y; exact up_n (by decide))
      have hw : WR (upM M 819 7 (ii 0)) A T := ⟨hr, hi, by omega, hz.1.2.1⟩
      refine ⟨upM M 819 7 (ii 0), ?_, h.u7 hz, fr7, st7⟩
      rw [q286_0, i_0, S116 hr hi (b32 (by omega)), kb1, q286_10, i_0, bIT, decide_eq_true hc.1, cond_true, i_13, S28 (b32 (by omega)) (b32 (by omega)) (b32 (by omega)), kb1, q286_20, i_0, bIT, decide_eq_true (by omega), cond_true, i_5, eqF (by omega), i_6, eqF (by omega), i_7, eqF (by omega), i_8, eqF (by omega), i_9, eqF (by omega), i_10, eqT rfl, ii_add, ii_sub, S25 (by omega), kb1, show 66 + 10 * a + (6 + 10 - 10) = 66 + 10 * a + 6 by omega, (hr.2.2.2.1 a hc.1.1 (by omega)).2.2.2.2.2.2.1, q286_123]
  · refine ⟨ii (A 47 a), fun M X h => ?_, fun M X h => ?_⟩
    · skip
      have hs := h.1.2.1
      have hp := h.1.1
      obtain ⟨s1, ⟨tu, s2⟩, s3, ⟨nx9, s4⟩, s5, s6, s7, s8, s9, s10, s11, s12, s13, s14, s15, s16, s17⟩ := h.1.2.1
      obtain ⟨p1, p2, p3, p4, p5, p6, p7, p8, p9, p10, p11, p12, p13, p14, p15, p16, p17⟩ := h.1.1
      obtain ⟨l0, l1, l2, l3, l4, l5, l6, l7, l8, l9, l10, l11, l12, l13, l14, l15, l16, l17⟩ := stl83
      obtain ⟨m1, m2, m3, m4, m5, m6, m7, m8, m9, m10, m11, m12, m13, m14, m15, m16⟩ := pll49
      refine ⟨M, ?_, h, fun _ _ => rfl⟩
      rw [q201_0, p4, S1 (b32 (by omega)) (by omega), kt1, q201_11, i_0, bIT, decide_eq_true hc.1, cond_true, eqF (by omega), i_1, eqF (by omega), i_2, eqF (by omega), i_3, eqF (by omega), i_4, eqF (by omega), i_5, eqF (by omega), i_6, eqF (by omega), i_7, eqF (by omega), i_8, eqF (by omega), i_9, eqF (by omega), i_10, eqF (by omega), i_11, eqT rfl, S12 (t := 116) hc.1.1 (by have e9 : rl 116 = 6 := l10; omega), kt1, s11 a hc.1.1 (by omega), q201_237]
    · skip
      have hr : RR (upM M 819 7 (ii 0)) A := RR_k h.1.1 (by funext y; exact up_n (by decide))
      have hw : WR (upM M 819 7 (ii 0)) A T := ⟨hr, hi, by omega, hz.1.2.1⟩
      refine ⟨upM M 819 7 (ii 0), ?_, h.u7 hz, fr7, st7⟩
      rw [q286_0, i_0, S116 hr hi (b32 (by omega)), kb1, q286_10, i_0, bIT, decide_eq_true hc.1, cond_true, i_13, S28 (b32 (by omega)) (b32 (by omega)) (b32 (by omega)), kb1, q286_20, i_0, bIT, decide_eq_true (by omega), cond_true, i_5, eqF (by omega), i_6, eqF (by omega), i_7, eqF (by omega), i_8, eqF (by omega), i_9, eqF (by omega), i_10, eqF (by omega), i_11, eqT rfl, ii_add, ii_sub, S25 (by omega), kb1, show 66 + 10 * a + (6 + 11 - 10) = 66 + 10 * a + 7 by omega, (hr.2.2.2.1 a hc.1.1 (by omega)).2.2.2.2.2.2.2.1, q286_123]
  · refine ⟨ii (A 48 a), fun M X h => ?_, fun M X h => ?_⟩
    · skip
      have hs := h.1.2.1
      have hp := h.1.1
      obtain ⟨s1, ⟨tu, s2⟩, s3, ⟨nx9, s4⟩, s5, s6, s7, s8, s9, s10, s11, s12, s13, s14, s15, s16, s17⟩ := h.1.2.1
      obtain ⟨p1, p2, p3, p4, p5, p6, p7, p8, p9, p10, p11, p12, p13, p14, p15, p16, p17⟩ := h.1.1
      obtain ⟨l0, l1, l2, l3, l4, l5, l6, l7, l8, l9, l10, l11, l12, l13, l14, l15, l16, l17⟩ := stl83
      obtain ⟨m1, m2, m3, m4, m5, m6, m7, m8, m9, m10, m11, m12, m13, m14, m15, m16⟩ := pll49
      refine ⟨M, ?_, h, fun _ _ => rfl⟩
      rw [q201_0, p4, S1 (b32 (by omega)) (by omega), kt1, q201_11, i_0, bIT, decide_eq_true hc.1, cond_true, eqF (by omega), i_1, eqF (by omega), i_2, eqF (by omega), i_3, eqF (by omega), i_4, eqF (by omega), i_5, eqF (by omega), i_6, eqF (by omega), i_7, eqF (by omega), i_8, eqF (by omega), i_9, eqF (by omega), i_10, eqF (by omega), i_11, eqF (by omega), i_12, eqT rfl, S12 (t := 118) hc.1.1 (by have e9 : rl 118 = 6 := l11; omega), kt1, s12 a hc.1.1 (by omega), q201_249]
    · skip
      have hr : RR (upM M 819 7 (ii 0)) A := RR_k h.1.1 (by funext y; exact up_n (by decide))
      have hw : WR (upM M 819 7 (ii 0)) A T := ⟨hr, hi, by omega, hz.1.2.1⟩
      refine ⟨upM M 819 7 (ii 0), ?_, h.u7 hz, fr7, st7⟩
      rw [q286_0, i_0, S116 hr hi (b32 (by omega)), kb1, q286_10, i_0, bIT, decide_eq_true hc.1, cond_true, i_13, S28 (b32 (by omega)) (b32 (by omega)) (b32 (by omega)), kb1, q286_20, i_0, bIT, decide_eq_true (by omega), cond_true, i_5, eqF (by omega), i_6, eqF (by omega), i_7, eqF (by omega), i_8, eqF (by omega), i_9, eqF (by omega), i_10, eqF (by omega), i_11, eqF (by omega), i_12, eqT rfl, ii_add, ii_sub, S25 (by omega), kb1, show 66 + 10 * a + (6 + 12 - 10) = 66 + 10 * a + 8 by omega, (hr.2.2.2.1 a hc.1.1 (by omega)).2.2.2.2.2.2.2.2.1, q286_123]
  · refine ⟨ii (A 49 a), fun M X h => ?_, fun M X h => ?_⟩
    · skip
      have hs := h.1.2.1
      have hp := h.1.1
      obtain ⟨s1, ⟨tu, s2⟩, s3, ⟨nx9, s4⟩, s5, s6, s7, s8, s9, s10, s11, s12, s13, s14, s15, s16, s17⟩ := h.1.2.1
      obtain ⟨p1, p2, p3, p4, p5, p6, p7, p8, p9, p10, p11, p12, p13, p14, p15, p16, p17⟩ := h.1.1
      obtain ⟨l0, l1, l2, l3, l4, l5, l6, l7, l8, l9, l10, l11, l12, l13, l14, l15, l16, l17⟩ := stl83
      obtain ⟨m1, m2, m3, m4, m5, m6, m7, m8, m9, m10, m11, m12, m13, m14, m15, m16⟩ := pll49
      refine ⟨M, ?_, h, fun _ _ => rfl⟩
      rw [q201_0, p4, S1 (b32 (by omega)) (by omega), kt1, q201_11, i_0, bIT, decide_eq_true hc.1, cond_true, eqF (by omega), i_1, eqF (by omega), i_2, eqF (by omega), i_3, eqF (by omega), i_4, eqF (by omega), i_5, eqF (by omega), i_6, eqF (by omega), i_7, eqF (by omega), i_8, eqF (by omega), i_9, eqF (by omega), i_10, eqF (by omega), i_11, eqF (by omega), i_12, eqF (by omega), i_13, eqT rfl, S12 (t := 120) hc.1.1 (by have e9 : rl 120 = 6 := l12; omega), kt1, s13 a hc.1.1 hc.1.2, q201_261]
    · skip
      have hr : RR (upM M 819 7 (ii 0)) A := RR_k h.1.1 (by funext y; exact up_n (by decide))
      have hw : WR (upM M 819 7 (ii 0)) A T := ⟨hr, hi, by omega, hz.1.2.1⟩
      refine ⟨upM M 819 7 (ii 0), ?_, h.u7 hz, fr7, st7⟩
      rw [q286_0, i_0, S116 hr hi (b32 (by omega)), kb1, q286_10, i_0, bIT, decide_eq_true hc.1, cond_true, i_13, S28 (b32 (by omega)) (b32 (by omega)) (b32 (by omega)), kb1, q286_20, i_0, bIT, decide_eq_true (by omega), cond_true, i_5, eqF (by omega), i_6, eqF (by omega), i_7, eqF (by omega), i_8, eqF (by omega), i_9, eqF (by omega), i_10, eqF (by omega), i_11, eqF (by omega), i_12, eqF (by omega), i_13, eqT rfl, ii_add, ii_sub, S25 (by omega), kb1, show 66 + 10 * a + (6 + 13 - 10) = 66 + 10 * a + 9 by omega, (hr.2.2.2.1 a hc.1.1 (by omega)).2.2.2.2.2.2.2.2.2, q286_123]
theorem P_side_n (hz : ZW T A n Q k I s D f) (hT : T < 1000000) (ha : B32 a) (hb : B32 b) (hc : ¬ ((0 ≤ a ∧ a < A 0 3) ∧ (0 ≤ b ∧ b < 14))) : cT (fun M => CW M A n Q k I s D f) 201 [pR 1 0, pI (ii a), pI (ii b)] 1 ∧ rA (fun M => RWx M A n Q k I s D f) (fun M => RWx M A n Q k I s D f) 286 [pR 13 819, pI (ii a), pI (ii b)] (ii 0) 1 := by
  have hi := hz.1.1
  have g := hi.1
  refine ⟨fun M X h hX => ?_, fun M X h => ⟨upM (upM M 819 7 (ii 0)) 819 7 (ii 1), ?_, (h.u7 hz).u7 hz, fun y hy => by rw [fr7 y hy, fr7 y hy], st7⟩⟩
  · skip
    have hs := h.1.2.1
    have hp := h.1.1
    obtain ⟨s1, ⟨tu, s2⟩, s3, ⟨nx9, s4⟩, s5, s6, s7, s8, s9, s10, s11, s12, s13, s14, s15, s16, s17⟩ := h.1.2.1
    obtain ⟨p1, p2, p3, p4, p5, p6, p7, p8, p9, p10, p11, p12, p13, p14, p15, p16, p17⟩ := h.1.1
    obtain ⟨l0, l1, l2, l3, l4, l5, l6, l7, l8, l9, l10, l11, l12, l13, l14, l15, l16, l17⟩ := stl83
    obtain ⟨m1, m2, m3, m4, m5, m6, m7, m8, m9, m10, m11, m12, m13, m14, m15, m16⟩ := pll49
    rw [q201_0, p4, S1 ha (by omega), kt1, q201_11, i_0, bIT]
    by_cases c1 : 0 ≤ a ∧ a < A 0 3
    · obtain ⟨b1, b2⟩ := hb
      rw [decide_eq_true c1, cond_true, eqF (by omega), i_1, eqF (by omega), i_2, eqF (by omega), i_3, eqF (by omega), i_4, eqF (by omega), i_5, eqF (by omega), i_6, eqF (by omega), i_7, eqF (by omega), i_8, eqF (by omega), i_9, eqF (by omega), i_10, eqF (by omega), i_11, eqF (by omega), i_12, eqF (by omega), i_13, eqF (by omega), thT hX (by decide) (by decide)]
    · rw [decide_eq_false c1, cond_false, thT hX (by decide) (by decide)]
  · skip
    have hr : RR (upM M 819 7 (ii 0)) A := RR_k h.1.1 (by funext y; exact up_n (by decide))
    have hw : WR (upM M 819 7 (ii 0)) A T := ⟨hr, hi, by omega, hz.1.2.1⟩
    rw [q286_0, i_0, S116 hr hi ha, kb1, q286_10, i_0, bIT]
    have fin : ∀ z1 z2, ev true 286 0 23 [pR 13 819, z1, z2] [] (upM M 819 7 (ii 0)) X = some (.inl (some (pI (ii 0))), upM (upM M 819 7 (ii 0)) 819 7 (ii 1), X) := fun z1 z2 => by rw [q286_23, i_1, S27, kb1, q286_28]
    by_cases c1 : 0 ≤ a ∧ a < A 0 3
    · rw [decide_eq_true c1, cond_true, i_13, S28 hb (b32 (by omega)) (b32 (by omega)), kb1, q286_20, i_0, bIT, decide_eq_false (by omega), cond_false, fin]
    · rw [decide_eq_false c1, cond_false, fin]
end ASK
