/-! the reference: what comes -/
section RCO
set_option maxRecDepth 100000
variable {u s p l t g : Nat} {j k q e w c T tu nx v off sh i z y : Int} {A A' : AT} {M M' : Mem} {X : PX} {f : Nat}
/-- of the reference nothing but its row, what is carried, and where the sum is read, is written; the text stays -/
def FrR (M M' : Mem) : Prop := (∀ b, b ≠ 819 → b ≠ 820 → b ≠ 825 → M' b = M b) ∧ (∀ k, k ≠ 10 → k ≠ 11 → M' 819 k = M 819 k) ∧ ∀ z, 0 ≤ z → (z = 10 ∨ 934 ≤ z) → rr M' z = rr M z
theorem FrR.rf : FrR M M := ⟨fun _ _ _ _ => rfl, fun _ _ _ => rfl, fun _ _ _ => rfl⟩
theorem FrR.tr {M1 M2 M3 : Mem} (h1 : FrR M1 M2) (h2 : FrR M2 M3) : FrR M1 M3 := ⟨fun b a c d => (h2.1 b a c d).trans (h1.1 b a c d), fun k a c => (h2.2.1 k a c).trans (h1.2.1 k a c), fun z a c => (h2.2.2 z a c).trans (h1.2.2 z a c)⟩
theorem FrR.sr {v : Int32} (h0 : 0 ≤ z) (h : z ≠ 10 ∧ z < 934) : FrR M (sr M z v) := ⟨fun b _ a _ => sr_n a, fun k _ _ => by rw [sr_n (by decide)], fun y h1 h2 => by rw [rr_sr h0 h1, if_neg (by omega)]⟩
/-- a world of the reference -/
def WR (M : Mem) (A : AT) (T : Int) : Prop := RR M A ∧ INV A T ∧ T < 1000000 ∧ HLD A
theorem S120 (h : WR M A T) (h1 : 0 ≤ c) (h2 : c < A 0 4) : ev true 120 0 0 [pR 13 819, pI (ii c), p0, p0, p0] [] M X = some (.inl (some (pI (ii (dueA A c)))), M, X) := by
  obtain ⟨hr, hi, hT, hh⟩ := h
  obtain ⟨b1, b2, b3, b4, b5, b6, b7, b8⟩ := hi.2.2.2.2.2.1 c h1 h2
  obtain ⟨i1, i2, i3, i4, i5, i6, i7, i8, i9, i10, i11, i12, -⟩ := hi.1
  obtain ⟨r1, r2, r3, r4⟩ := hr.2.2.2.2.1 c h1 (by omega)
  have t5 : M 820 5 = ii (A 0 5) := hr.1 5 (by omega) (by omega)
  have m1 := Int.emod_nonneg (A 0 5 - A 53 c) (by omega : A 52 c ≠ 0)
  have m2 := Int.emod_lt_of_pos (A 0 5 - A 53 c) (by omega : 0 < A 52 c)
  rw [q120_0, i_3, S34 (by omega), kb1, q120_6, i_2, S34 (by omega), kb1, q120_13, r3, r4, t5, i_5, inR (by omega), ilt (by omega)]
  unfold dueA
  by_cases hc : A 53 c < A 0 5
  · rw [if_pos hc, if_pos hc, inR (by omega), i_0, eqF (by omega), ii_sub, ii_div (by omega) (by omega) (by omega) (by omega), ii_mul, ii_sub, show A 0 5 - A 53 c - (A 0 5 - A 53 c) / A 52 c * A 52 c = (A 0 5 - A 53 c) % A 52 c by rw [Int.mul_comm, Int.emod_def], ieq (by omega)]
    by_cases hd : (A 0 5 - A 53 c) % A 52 c = 0
    · rw [if_pos hd, if_pos hd, q120_58]
    · rw [if_neg hd, if_neg hd, ii_sub, q120_58]
  · rw [if_neg hc, if_neg hc, inR (by omega), ii_sub]
theorem RR_join (h : RR M A) (hi : INV A T) (h1 : 0 ≤ j) (h2 : j < A 0 3) (h3 : A 44 j < 20) : RR (sr (sr (sr M (414 + 2 * (20 * j + A 44 j)) (ii w)) (414 + 2 * (20 * j + A 44 j) + 1) (ii (A 0 5))) (66 + 10 * j + 4) (ii (A 44 j + 1))) (joinA A j w) := by
  have g := hi.1
  have hsz : ∀ e, 0 ≤ e → e < 6 → 0 ≤ A 44 e ∧ A 44 e ≤ 20 := fun e a b => by
    rcases Int.lt_or_le e (A 0 3) with h | h
    · obtain ⟨-, -, -, -, -, -, -, -, q9, q10, -⟩ := hi.2.2.2.1 e a h
      exact ⟨q9, q10⟩
    · rw [hi.2.2.2.2.1 e h b]; omega
  have hj := hsz j h1 (by omega)
  have k0 : ∀ f, f ≠ 44 → f ≠ 60 → f ≠ 61 → joinA A j w f = A f := fun f a b c => joinA_f a b c
  obtain ⟨r0, rx, rw9, rs, rc, rp, rb, rq, rl9⟩ := h
  have e44 : ∀ y, joinA A j w 44 y = if y = j then A 44 j + 1 else A 44 y := fun y => by unfold joinA; rw [upA_s]; by_cases hy : y = j <;> simp (disch := omega) only [hy, if_pos, if_neg, if_true, if_false, upA_n]
  have e60 : ∀ y, joinA A j w 60 y = if y = 20 * j + A 44 j then w else A 60 y := fun y => by unfold joinA; rw [upA_n (by decide), upA_n (by decide), upA_s]
  have e61 : ∀ y, joinA A j w 61 y = if y = 20 * j + A 44 j then A 0 5 else A 61 y := fun y => by unfold joinA; rw [upA_n (by decide), upA_s]; by_cases hy : y = 20 * j + A 44 j <;> simp (disch := omega) only [hy, if_pos, if_neg, if_true, if_false, upA_n]
  unfold RR R0 RX RWa RSi RCo RPl RPb RQu RLg
  simp (disch := omega) only [k0]
  refine ⟨fun k a b => ?_, fun e a b => ?_, fun e a b => ?_, fun e a b => ?_, fun e a b => ?_, fun q a b => ?_, fun q k a0 a b c d => ?_, fun e k a b c d => ?_, fun e k a b c d => ?_⟩
  · have h9 := r0 k a b
    simp (disch := omega) only [rr_sr, if_neg]
    exact h9
  · have h9 := rx e a b
    simp (disch := omega) only [rr_sr, if_neg]
    exact h9
  · have h9 := rw9 e a b
    simp (disch := omega) only [rr_sr, if_neg]
    exact h9
  · have h9 := rs e a b
    rw [e44]
    by_cases hy : e = j
    · subst hy
      simp (disch := omega) only [rr_sr, if_neg, if_pos, if_true]
      exact ⟨h9.1, h9.2.1, h9.2.2.1, h9.2.2.2.1, trivial, h9.2.2.2.2.2⟩
    · simp (disch := omega) only [rr_sr, if_neg]
      exact h9
  · have h9 := rc e a b
    simp (disch := omega) only [rr_sr, if_neg]
    exact h9
  · have h9 := rp q a b
    simp (disch := omega) only [rr_sr, if_neg]
    exact h9
  · have h9 := rb q k a0 a b c d
    simp (disch := omega) only [rr_sr, if_neg]
    exact h9
  · have hz := hsz e a b
    rw [e44] at d
    rw [e60, e61]
    by_cases hy : e = j
    · subst hy
      rw [if_pos rfl] at d
      by_cases hk : k = A 44 e
      · subst hk
        simp (disch := omega) only [rr_sr, if_neg, if_pos, if_true]
        exact ⟨trivial, trivial⟩
      · have h9 := rq e k a b c (by omega)
        simp (disch := omega) only [rr_sr, if_neg]
        exact h9
    · rw [if_neg hy] at d
      have h9 := rq e k a b c d
      simp (disch := omega) only [rr_sr, if_neg]
      exact h9
  · have h9 := rl9 e k a b c d
    simp (disch := omega) only [rr_sr, if_neg]
    exact h9
theorem S122 (h : WR M A T) (h1 : 0 ≤ j) (h2 : j < A 0 3) : ∃ M', ev true 122 0 0 [pR 13 819, pI (ii j), pI (ii w), p0] [] M X = some (.inl (some (pI (bI (decide (A 44 j < A 41 j))))), M', X) ∧ RR M' (if A 44 j < A 41 j then joinA A j w else A) ∧ FrR M M' := by
  obtain ⟨hr, hi, hT, hh⟩ := h
  obtain ⟨i1, i2, i3, i4, i5, i6, i7, i8, i9, i10, i11, i12, -⟩ := hi.1
  obtain ⟨d1, d2, d3, d4, d5, d6, d7, d8, d9, d10, d11, d12, d13⟩ := hi.2.2.2.1 j h1 h2
  obtain ⟨r0, r1, r2, r3, r4, r5, r6, r7, r8, r9⟩ := hr.2.2.2.1 j h1 (by omega)
  have t5 : M 820 5 = ii (A 0 5) := hr.1 5 (by omega) (by omega)
  rw [q122_0, i_4, S25 (by omega), kb1, q122_6, i_1, S25 (by omega), kb1, q122_14, r4, r1, ilt (by omega)]
  by_cases c : A 44 j < A 41 j
  · have hj := RR_join (w := w) hr hi h1 h2 (by omega)
    refine ⟨_, ?_, by rw [if_pos c]; exact hj, ((FrR.sr (by omega) (by omega)).tr (FrR.sr (by omega) (by omega))).tr (FrR.sr (by omega) (by omega))⟩
    obtain ⟨M1, e1⟩ : ∃ M1, M1 = sr M (414 + 2 * (20 * j + A 44 j)) (ii w) := ⟨_, rfl⟩
    obtain ⟨M2, e2⟩ : ∃ M2, M2 = sr M1 (414 + 2 * (20 * j + A 44 j) + 1) (ii (A 0 5)) := ⟨_, rfl⟩
    have u5 : M1 820 5 = ii (A 0 5) := by
      show rr M1 5 = _
      rw [e1, rr_sr (by omega) (by omega), if_neg (by omega)]
      exact t5
    have u4 : rr M2 (66 + 10 * j + 4) = ii (A 44 j) := by
      rw [e2, e1, rr_sr (by omega) (by omega), if_neg (by omega), rr_sr (by omega) (by omega), if_neg (by omega), r4]
    rw [if_pos c, S26, kb1, q122_29, inR (by omega), sr_i (M := M) (by omega), ← e1, S26, kb1, q122_41, i_5, inR (by omega), i_1, ii_add, inR (by omega), i_66, i_10, i_4, ii_mul, ii_add, ii_add, inR (by omega), inR (by omega), rk1, u5, sr_i (M := M1) (by omega), ← e2, rr_i M2 (by omega), u4, ii_add, sr_i (M := M2) (by omega), decide_eq_true c]
    rfl
  · refine ⟨M, ?_, by rw [if_neg c]; exact hr, FrR.rf⟩
    rw [if_neg c, i_0, rk0, decide_eq_false c]
    rfl
theorem S181b (h : WR M A T) (ho : M 819 8 = ii off) (ho2 : -1 ≤ off ∧ off < 100) (h1 : 0 ≤ c) (h2 : c < A 0 4) {z2 : PV} : ∃ M' z, ev true 181 0 2 [pR 13 819, pI (ii c), z2] [] M X = ev true 181 0 2 [pR 13 819, pI (ii (c + 1)), z] [] M' X ∧ WR M' (comeA off A c) T ∧ FrR M M' := by
  have hw := h
  obtain ⟨hr, hi, hT, hh⟩ := h
  obtain ⟨b1, b2, b3, b4, b5, b6, b7, b8⟩ := hi.2.2.2.2.2.1 c h1 h2
  obtain ⟨d1, d2, d3, d4, d5, d6, d7, d8, d9, d10, d11, d12, d13⟩ := hi.2.2.2.1 (A 50 c) b1 b2
  obtain ⟨g1, g2, g3, g4, g5, g6, g7, g8, g9, g10, g11, g12, -⟩ := hi.1
  obtain ⟨r1, r2, r3, r4⟩ := hr.2.2.2.2.1 c h1 (by omega)
  have t4 : M 820 4 = ii (A 0 4) := hr.1 4 (by omega) (by omega)
  obtain ⟨v1, v2⟩ := due_ge hi h1 h2
  have hci := come_INV (off := off) hi h1 h2
  have hch := come_HLD (off := off) (c := c) hh
  rw [q181_2, i_4, inR (by omega), t4, ltT (by omega), i_0, S34 (by omega), kb1, q181_18, S120 hw h1 h2, kb1, q181_24, r1, ho, i_0, ilt (by omega)]
  by_cases c2 : 0 < dueA A c
  · rw [if_pos c2, q181_82, i_1, ii_add]
    refine ⟨M, _, rfl, ?_, FrR.rf⟩
    unfold comeA
    rw [if_pos (Or.inr (by omega))]
    exact hw
  · rw [if_neg c2, ieq (by omega)]
    by_cases c1 : A 50 c = off
    · rw [if_pos c1, q181_82, i_1, ii_add]
      refine ⟨M, _, rfl, ?_, FrR.rf⟩
      unfold comeA
      rw [if_pos (Or.inl c1)]
      exact hw
    · have hc : ¬ (A 50 c = off ∨ dueA A c ≠ 0) := by omega
      obtain ⟨M1, a1, a2, a3⟩ := S122 (X := X) (w := A 51 c) hw b1 b2
      rw [if_neg c1, i_1, S34 (by omega), kb1, q181_43, r2, a1, kb1, q181_46, i_0, bIT]
      by_cases c3 : A 44 (A 50 c) < A 41 (A 50 c)
      · rw [if_pos c3] at a2
        rw [decide_eq_true c3, cond_true, q181_82, i_1, ii_add]
        refine ⟨M1, _, rfl, ?_, a3⟩
        have e : comeA off A c = joinA A (A 50 c) (A 51 c) := by unfold comeA; rw [if_neg hc, if_neg (by omega)]
        rw [e] at hci hch ⊢
        exact ⟨a2, hci, hT, hch⟩
      · rw [if_neg c3] at a2
        have e : comeA off A c = upA (upA A 0 7 (A 0 7 + 1)) 48 (A 50 c) (A 48 (A 50 c) + 1) := by unfold comeA; rw [if_neg hc, if_pos (by omega)]
        rw [e] at hci hch ⊢
        have t7 : M1 820 7 = ii (A 0 7) := a2.1 7 (by omega) (by omega)
        have s8 := (a2.2.2.2.1 (A 50 c) b1 (by omega)).2.2.2.2.2.2.2.2.1
        have h07 := RR_07 (v := A 0 7 + 1) a2
        have h48 := RR_48 (v := A 48 (A 50 c) + 1) h07 b1 (by omega)
        refine ⟨sr (sr M1 7 (ii (A 0 7 + 1))) (66 + 10 * A 50 c + 8) (ii (A 48 (A 50 c) + 1)), pI (ii (A 50 c)), ?_, ⟨h48, hci, hT, hch⟩, (a3.tr (FrR.sr (by omega) (by omega))).tr (FrR.sr (by omega) (by omega))⟩
        rw [decide_eq_false c3, cond_false, i_7, inR (by omega), inR (by omega), i_66, i_10, i_8, ii_mul, ii_add, ii_add, inR (by omega), inR (by omega), t7, i_1, ii_add, show upM M1 820 7 (ii (A 0 7 + 1)) = sr M1 7 (ii (A 0 7 + 1)) from rfl, rr_i (sr M1 7 (ii (A 0 7 + 1))) (by omega), rr_sr (by omega) (by omega), if_neg (by omega), s8, ii_add, sr_i (by omega), q181_82, i_1, ii_add]
theorem S181l (ho2 : -1 ≤ off ∧ off < 100) : ∀ (m : Nat) (c : Int) (A : AT) (M : Mem) (z2 : PV), c + m = A 0 4 → 0 ≤ c → M 819 8 = ii off → WR M A T → ∃ M', ev true 181 0 2 [pR 13 819, pI (ii c), z2] [] M X = some (.inl none, M', X) ∧ WR M' (comesA off m c A) T ∧ FrR M M' := by
  intro m
  induction m with
  | zero =>
    intro c A M z2 h1 h2 ho h
    have t4 : M 820 4 = ii (A 0 4) := h.1.1 4 (by omega) (by omega)
    have g := h.2.1.1
    exact ⟨M, by rw [q181_2, i_4, inR (by omega), t4, ltF (by omega)], h, FrR.rf⟩
  | succ m ih =>
    intro c A M z2 h1 h2 ho h
    obtain ⟨M1, z, r1, r2, r3⟩ := S181b (X := X) (z2 := z2) h ho ho2 h2 (by omega)
    obtain ⟨M2, t1, t2, t3⟩ := ih (c + 1) (comeA off A c) M1 z (by rw [come_SP.2.2.2.2.1]; omega) (by omega) (by rw [r3.2.1 8 (by decide) (by decide)]; exact ho) r2
    exact ⟨M2, by rw [r1, t1], t2, r3.tr t3⟩
theorem S181 (h : WR M A T) (ho : M 819 8 = ii off) (ho2 : -1 ≤ off ∧ off < 100) : ∃ M', ev true 181 0 0 [pR 13 819, p0, p0] [] M X = some (.inl none, M', X) ∧ WR M' (allComeA off A) T ∧ FrR M M' := by
  have g := h.2.1.1
  obtain ⟨M', t1, t2, t3⟩ := S181l (X := X) ho2 (A 0 4).toNat 0 A M p0 (by omega) (by omega) ho h
  exact ⟨M', by rw [q181_0, i_0, t1], t2, t3⟩
end RCO
