/-! the least room, the best reach, without a side: both sides -/
section LEAR
set_option maxRecDepth 100000
variable {u p v l g : Nat} {j q e w c T T' tu tv nx off sh i z y N t x a b d o : Int} {A B C I I' A' B' R : AT} {M M' M0 M1 M2 : Mem} {X : PX} {L : Bool} {n s m : Nat} {Q Q' : Nat → AT} {k : Bool} {D : Nat → Int} {f : Int}
theorem ii_dif {a b : Int} (h : ii a = ii b) (h1 : -2147483648 ≤ a - b ∧ a - b < 2147483648) : a = b := by
  have h2 : ii (a - b) = ii 0 := by rw [← ii_sub, h, ii_sub, Int.sub_self]
  have := ii_inj h2 (by omega)
  omega
theorem S116' (h : RWx M A n Q k I s D f) (hz : ZW T A n Q k I s D f) (ha : B32 a) : ev true 116 0 0 [pR 13 819, pI (ii a)] [] M X = some (.inl (some (pI (bI (decide (0 ≤ a ∧ a < A 0 3))))), M, X) := S116 h.1.1 hz.1.1 ha
/-- till lost, and on: none is lost in the one just if none is in the other -/
theorem rtl_eq {x : Int} : ∀ (n : Nat) (A : AT) (T : Int), INV A T → HLD A → A 48 j = x → n ≤ 500 → (rtlA off j x n A 48 j = x ↔ runA off n A 48 j = x) ∧ x ≤ rtlA off j x n A 48 j ∧ rtlA off j x n A 48 j ≤ x + 12 * n
  | 0, A, T, _, _, h, _ => ⟨Iff.rfl, by show x ≤ A 48 j; omega, by show A 48 j ≤ x + 12 * ((0 : Nat) : Int); omega⟩
  | n + 1, A, T, hi, hh, h, hn => by
    obtain ⟨i1, h1⟩ := step_INV (off := off) hi hh
    have b := step_48 (off := off) hi j
    have e : rtlA off j x (n + 1) A = rtlA off j x n (stepA off A) := by
      show (if ii (A 48 j) = ii x then _ else _) = _
      rw [if_pos (by rw [h])]
    rw [e]
    show (rtlA off j x n (stepA off A) 48 j = x ↔ runA off n (stepA off A) 48 j = x) ∧ _
    rcases Int.lt_or_le x (stepA off A 48 j) with h9 | h9
    · have st : rtlA off j x n (stepA off A) = stepA off A := by
        cases n with
        | zero => rfl
        | succ n =>
          show (if ii (stepA off A 48 j) = ii x then _ else _) = _
          rw [if_neg (fun z => by have := ii_dif z (by omega); omega)]
      have r := run_48 (off := off) j n _ _ i1 h1
      rw [st]
      exact ⟨⟨fun z => by omega, fun z => by omega⟩, by omega, by omega⟩
    · obtain ⟨k1, k2, k3⟩ := rtl_eq n _ _ i1 h1 (show stepA off A 48 j = x by omega) (by omega)
      exact ⟨k1, k2, by omega⟩
noncomputable def lrA (A : AT) (a : Int) (n : Nat) : Nat → Int → Int
  | 0, _ => -1
  | m + 1, r => if runA (-1) n (upA A 41 a r) 48 a = A 48 a then r else lrA A a n m (r + 1)
/-- a trial's state with one number another: the class -/
theorem C_set {F : Nat} (h : CW M A n Q k I s D f) (hz : ZW T A n Q k I s D f) (hT : T < 1000000) (ha : 0 ≤ a ∧ a < A 0 3) (hF : (F = 41 ∧ p = 706) ∨ (F = 42 ∧ p = 708)) (hB : PW (upA A F a x) T) (hS : SP A (upA A F a x)) : ∃ M', (ev true 209 0 0 [pR 6 685, pR 6 83] [] M X = some (.inl none, M', X)) ∧ (ev true 11 0 0 [pR 8 p, pI (ii a), pI (ii x)] [] M' X = some (.inl none, sc M' p a (ii x), X)) ∧ WT (sc M' p a (ii x)) 49 685 (upA A F a x) T ∧ sc M' p a (ii x) 685 17 = ii (-1) ∧ FrG M (sc M' p a (ii x)) := by
  have g := hz.1.1.1
  obtain ⟨M1, a1, a2, a3, a4⟩ := S209w (X := X) (WTof h hz hT) stl685 (by omega) (by omega)
  obtain ⟨-, -, -, -, l21, l23, -⟩ := stl685
  have fr : FrG M (sc M1 p a (ii x)) := fun y c1 _ _ => by
    funext z
    rw [sc_n (by omega), a4 y (by omega)]
  have hp2 : PLv (sc M1 p a (ii x)) 49 (upA A F a x) := PLv_k a2.1.1 (fun y _ _ _ _ => by funext z; exact sc_n (by omega)) hS
  refine ⟨M1, a1, S11 ha.1 ?_, ⟨⟨hp2, pll49, ?_, stl685, hB.1, hT, by omega⟩, hB.2.1, hB.2.2.1⟩, by rw [sc_n (by omega), a3]; exact h.1.2.2, fr⟩
  · rcases hF with ⟨-, rfl⟩ | ⟨-, rfl⟩
    · have e : rl 706 = 6 := l21
      omega
    · have e : rl 708 = 6 := l23
      omega
  · rcases hF with ⟨rfl, rfl⟩ | ⟨rfl, rfl⟩
    · exact ST_41 a2.1.2.2.1 ha.1
    · exact ST_42 a2.1.2.2.1 ha.1
theorem C_least {n9 : Int} (hz : ZW T A n Q k I s D f) (hT : T + 500 < 1000000) (ha : 0 ≤ a ∧ a < A 0 3) (hn : 0 ≤ n9 ∧ n9 ≤ 500) : ∀ (m : Nat) (r : Int) (M : Mem), r + m = 21 → 1 ≤ r → CW M A n Q k I s D f → ∃ M', ev true 261 0 61 [pR 1 0, pI (ii a), pI (ii n9), pI (ii r)] [] M X = some (.inl (some (pI (ii (lrA A a n9.toNat m r)))), M', X) ∧ CW M' A n Q k I s D f ∧ ∀ b, 819 ≤ b → M' b = M b := by
  have g := hz.1.1.1
  intro m
  induction m with
  | zero =>
    intro r M h1 h2 h
    exact ⟨M, by rw [q261_61, i_20, ltT (by omega), ii_m1]; rfl, h, fun _ _ => rfl⟩
  | succ m ih =>
    intro r M h1 h2 h
    obtain ⟨hB, hS⟩ := set_PW (g := 41) (j := a) (x := r) hz.1 (by omega) ha.1 ⟨fun z => absurd z (by decide), fun _ => by omega, fun z => absurd z (by decide), fun z => absurd z (by decide)⟩
    obtain ⟨M1, a1, a2, a3, a4, a5⟩ := C_set (X := X) (F := 41) (p := 706) h hz (by omega) ha (Or.inl ⟨rfl, rfl⟩) hB hS
    obtain ⟨M2, T2, b1, b2, b3, b4⟩ := S252 (X := X) (n := n9.toNat) a3 ha.1 (by omega) (by omega) (by omega) a4 (by omega)
    rw [upA_f (show (48 : Nat) ≠ 41 by decide)] at b2
    rw [show ((n9.toNat : Nat) : Int) = n9 by omega] at b1
    have fr := a5.tr (FrG.s7 b4)
    have hw := h.trial fr
    have r48 : cl M2 720 a = ii (rtlA (-1) a (A 48 a) n9.toNat (upA A 41 a r) 48 a) := by obtain ⟨-, -, -, -, -, -, -, -, -, -, -, h, -⟩ := b2.1.2.2.1; exact h a ha.1 (by omega)
    have z48 : cl M2 118 a = ii (A 48 a) := by obtain ⟨-, -, -, -, -, -, -, -, -, -, -, h, -⟩ := hw.1.2.1; exact h a ha.1 (by omega)
    have m35 : rl 720 = 6 := by obtain ⟨-, -, -, -, -, -, -, -, -, -, -, l35, -⟩ := stl685; exact l35
    have l35 : rl 118 = 6 := by obtain ⟨-, -, -, -, -, -, -, -, -, -, -, l35, -⟩ := stl83; exact l35
    obtain ⟨k1, k2, k3⟩ := rtl_eq (off := -1) (j := a) (x := A 48 a) n9.toNat (upA A 41 a r) T hB.1 hB.2.1 (by rw [upA_f (by decide)]) (by omega)
    have pre : ev true 261 0 61 [pR 1 0, pI (ii a), pI (ii n9), pI (ii r)] [] M X = (if ii (rtlA (-1) a (A 48 a) n9.toNat (upA A 41 a r) 48 a) = ii (A 48 a) then some (.inl (some (pI (ii r))), M2, X) else ev true 261 0 61 [pR 1 0, pI (ii a), pI (ii n9), pI (ii (r + 1))] [] M2 X) := by
      rw [q261_61, i_20, ltF (by omega), a1, kt0, q261_78, a2, kt0, q261_90, b1, kt0, q261_103, S12 ha.1 (by omega), kt1, r48, q261_114, S12 ha.1 (by omega), kt1, z48, q261_125, i_1, ii_add]
    rw [pre]
    by_cases c : runA (-1) n9.toNat (upA A 41 a r) 48 a = A 48 a
    · refine ⟨M2, ?_, hw, fr.hi⟩
      rw [if_pos (by rw [k1.mpr c])]
      unfold lrA
      rw [if_pos c]
    · obtain ⟨M', c1, c2, c3⟩ := ih (r + 1) M2 (by omega) (by omega) hw
      refine ⟨M', ?_, c2, fun y hy => (c3 y hy).trans (fr.hi y hy)⟩
      rw [if_neg (fun z => c (k1.mp (ii_dif z (by omega)))), c1, show lrA A a n9.toNat (m + 1) r = lrA A a n9.toNat m (r + 1) from if_neg c]
theorem R_least {n9 : Int} (hz : ZW T A n Q k I s D f) (hT : T + 500 < 1000000) (ha : 0 ≤ a ∧ a < A 0 3) (hn : 0 ≤ n9 ∧ n9 ≤ 500) : ∀ (m : Nat) (r : Int) (M : Mem), r + m = 21 → 1 ≤ r → RWx M A n Q k I s D f → ∃ M', ev true 308 0 52 [pR 13 819, pI (ii a), pI (ii n9), pI (ii r)] [] M X = some (.inl (some (pI (ii (lrA A a n9.toNat m r)))), M', X) ∧ RWx M' A n Q k I s D f ∧ (∀ b, b < 819 → M' b = M b) ∧ M' 819 7 = M 819 7 := by
  have g := hz.1.1.1
  intro m
  induction m with
  | zero =>
    intro r M h1 h2 h
    exact ⟨M, by rw [q308_52, i_20, ltT (by omega), ii_m1]; rfl, h, fun _ _ => rfl, rfl⟩
  | succ m ih =>
    intro r M h1 h2 h
    obtain ⟨hB, hS⟩ := set_PW (g := 41) (j := a) (x := r) hz.1 (by omega) ha.1 ⟨fun z => absurd z (by decide), fun _ => by omega, fun z => absurd z (by decide), fun z => absurd z (by decide)⟩
    obtain ⟨M1, a1, a2, a3, a4⟩ := R_inTrial (X := X) (F := 41) (W := 48) (o := 1) (w := 8) (x := r) (n9 := n9) h hz hT ha (by omega) (by omega) hB hS (fun M hr => RR_41 hr ha.1 (by omega)) (fun M B hr => (hr.2.2.2.1 a ha.1 (by omega)).2.2.2.2.2.2.2.2.1) (by decide) hn
    have r48 := run_48 (off := -1) a n9.toNat (upA A 41 a r) T hB.1 hB.2.1
    rw [upA_f (show (48 : Nat) ≠ 41 by decide)] at r48
    have pre : ev true 308 0 52 [pR 13 819, pI (ii a), pI (ii n9), pI (ii r)] [] M X = (if ii (runA (-1) n9.toNat (upA A 41 a r) 48 a - A 48 a) = ii 0 then some (.inl (some (pI (ii r))), M1, X) else ev true 308 0 52 [pR 13 819, pI (ii a), pI (ii n9), pI (ii (r + 1))] [] M1 X) := by
      rw [q308_52, i_20, ltF (by omega), i_1, i_8, a1, kb1, q308_68, i_0, i_1, ii_add]
    rw [pre]
    by_cases c : runA (-1) n9.toNat (upA A 41 a r) 48 a = A 48 a
    · refine ⟨M1, ?_, a2, a3, a4⟩
      rw [if_pos (by rw [c, Int.sub_self])]
      unfold lrA
      rw [if_pos c]
    · obtain ⟨M', c1, c2, c3, c4⟩ := ih (r + 1) M1 (by omega) (by omega) a2
      refine ⟨M', ?_, c2, fun y hy => (c3 y hy).trans (a3 y hy), c4.trans a4⟩
      rw [if_neg (fun z => c (by have := ii_inj z (by omega); omega)), c1, show lrA A a n9.toNat (m + 1) r = lrA A a n9.toNat m (r + 1) from if_neg c]
def max1 (x : Int) : Int := if 1 < x then x else 1
theorem P_least_1 (hz : ZW T A n Q k I s D f) (ha : B32 a) (hc : ¬ (0 ≤ a ∧ a < A 0 3)) : cT (fun M => CW M A n Q k I s D f) 261 [pR 1 0, pI (ii a), pI (ii b), p0] 1 ∧ rA (fun M => RWx M A n Q k I s D f) (fun M => RWx M A n Q k I s D f) 308 [pR 13 819, pI (ii a), pI (ii b), p0] (ii 0) 1 := by
  have g := hz.1.1.1
  refine ⟨fun M X h hX => ?_, fun M X h => ⟨upM M 819 7 (ii 1), ?_, h.u7 hz, fr7, st7⟩⟩
  · rw [q261_0, h.1.1.2.2.2.1, S1 ha (by omega), kt1, q261_11, i_0, bIT, decide_eq_false hc, cond_false, thT hX (by decide) (by decide)]
  · rw [q308_0, S116' h hz ha, kb1, q308_6, i_0, bIT, decide_eq_false hc, cond_false, q308_29, i_1, st7, i_0, ltT (by omega)]
theorem P_least_2 (hz : ZW T A n Q k I s D f) (ha : 0 ≤ a ∧ a < A 0 3) (hb : B32 b) (hc : ¬ (1 ≤ b ∧ b ≤ 500)) : cT (fun M => CW M A n Q k I s D f) 261 [pR 1 0, pI (ii a), pI (ii b), p0] 2 ∧ rA (fun M => RWx M A n Q k I s D f) (fun M => RWx M A n Q k I s D f) 308 [pR 13 819, pI (ii a), pI (ii b), p0] (ii 0) 2 := by
  have g := hz.1.1.1
  refine ⟨fun M X h hX => ?_, fun M X h => ⟨upM M 819 7 (ii 2), ?_, h.u7 hz, fr7, st7⟩⟩
  · obtain ⟨b1, b2⟩ := hb
    rw [q261_0, h.1.1.2.2.2.1, S1 (b32 (by omega)) (by omega), kt1, q261_11, i_0, bIT, decide_eq_true ha, cond_true, i_1, ilt (by omega), i_500, ilt (by omega)]
    by_cases c1 : b < 1
    · rw [if_pos c1, q261_34, thT hX (by decide) (by decide)]
    · rw [if_neg c1, if_pos (by omega), q261_34, thT hX (by decide) (by decide)]
  · rw [q308_0, S116' h hz (b32 (by omega)), kb1, q308_6, i_0, bIT, decide_eq_true ha, cond_true, i_1, i_500, S28 hb (b32 (by omega)) (b32 (by omega)), kb1, q308_21, i_0, bIT, decide_eq_false hc, cond_false, q308_29, i_2, st7, i_0, ltT (by omega)]
theorem P_least_y (hz : ZW T A n Q k I s D f) (hT : T + 500 < 1000000) (ha : 0 ≤ a ∧ a < A 0 3) (hc : 1 ≤ b ∧ b ≤ 500) : ∃ v : Int32, cA (fun M => CW M A n Q k I s D f) (fun M => CW M A n Q k I s D f) 261 [pR 1 0, pI (ii a), pI (ii b), p0] v ∧ rA (fun M => RWx M A n Q k I s D f) (fun M => RWx M A n Q k I s D f) 308 [pR 13 819, pI (ii a), pI (ii b), p0] v 0 := by
  have g := hz.1.1.1
  obtain ⟨d1, d2, d3, d4, d5, d6, d7, d8, d9, d10, -⟩ := hz.1.1.2.2.2.1 a ha.1 ha.2
  have hm : 1 ≤ max1 (A 44 a) ∧ max1 (A 44 a) ≤ 20 := by unfold max1; split <;> omega
  have em : (if ii 1 < ii (A 44 a) then ii (A 44 a) else ii 1) = ii (max1 (A 44 a)) := by
    rw [ilt (by omega)]
    unfold max1
    split <;> rfl
  refine ⟨ii (lrA A a b.toNat (21 - max1 (A 44 a)).toNat (max1 (A 44 a))), fun M X h => ?_, fun M X h => ?_⟩
  · obtain ⟨M', a1, a2, a3⟩ := C_least (X := X) (n9 := b) hz hT ha (by omega) (21 - max1 (A 44 a)).toNat (max1 (A 44 a)) M (by omega) hm.1 h
    refine ⟨M', ?_, a2, a3⟩
    have l102 : rl 102 = 6 := stl83.2.2.2.1
    rw [q261_0, h.1.1.2.2.2.1, S1 (b32 (by omega)) (by omega), kt1, q261_11, i_0, bIT, decide_eq_true ha, cond_true, i_1, ltF (by omega), i_500, ltF (by omega), S12 ha.1 (by omega), kt1, show cl M 102 a = ii (A 44 a) from (h.1.2.1.2.2.1 a ha.1 (by omega)).2.2.1, q261_57, em, q261_60, a1]
  · have h7 := h.u7 (v := ii 0) hz
    obtain ⟨M', a1, a2, a3, a4⟩ := R_least (X := X) (n9 := b) hz hT ha (by omega) (21 - max1 (A 44 a)).toNat (max1 (A 44 a)) _ (by omega) hm.1 h7
    refine ⟨M', ?_, a2, fun y hy => by rw [a3 y hy, fr7 y hy], by rw [a4, st7]⟩
    rw [q308_0, S116' h hz (b32 (by omega)), kb1, q308_6, i_0, bIT, decide_eq_true ha, cond_true, i_1, i_500, S28 (b32 (by omega)) (b32 (by omega)) (b32 (by omega)), kb1, q308_21, i_0, bIT, decide_eq_true hc, cond_true, q308_29, st7, i_0, ltF (by omega), i_1, i_4, S25 (by omega), kb1, (h7.1.1.2.2.2.1 a ha.1 (by omega)).2.2.2.2.1, q308_48, em, q308_51, a1]
end LEAR
