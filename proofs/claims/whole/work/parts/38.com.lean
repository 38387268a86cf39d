/-! what comes -/
section COM
set_option maxRecDepth 100000
variable {u s p l t g : Nat} {j k q e w c T n tu nx v off : Int} {A A' : AT} {M M' : Mem} {X : PX} {f : Nat}
/-- the numbers that the bounds speak of are the same -/
theorem INV_same (hi : INV A T) (h0 : ∀ k, k ≠ 6 → k ≠ 7 → A' 0 k = A 0 k) (hA : ∀ f, f ∈ [20, 21, 22, 25, 26, 27, 30, 31, 32, 33, 35, 40, 41, 42, 43, 44, 49, 50, 51, 52, 53, 60, 61] → A' f = A f) : INV A' T := by
  unfold INV
  rw [h0 0 (by decide) (by decide), h0 1 (by decide) (by decide), h0 2 (by decide) (by decide), h0 3 (by decide) (by decide), h0 4 (by decide) (by decide), h0 5 (by decide) (by decide), h0 8 (by decide) (by decide), h0 9 (by decide) (by decide), hA 20 (by decide), hA 21 (by decide), hA 22 (by decide), hA 25 (by decide), hA 26 (by decide), hA 27 (by decide), hA 30 (by decide), hA 31 (by decide), hA 32 (by decide), hA 33 (by decide), hA 35 (by decide), hA 40 (by decide), hA 41 (by decide), hA 42 (by decide), hA 43 (by decide), hA 44 (by decide), hA 49 (by decide), hA 50 (by decide), hA 51 (by decide), hA 52 (by decide), hA 53 (by decide), hA 60 (by decide), hA 61 (by decide)]
  exact hi
theorem joinA_f (h1 : f ≠ 44) (h2 : f ≠ 60) (h3 : f ≠ 61) : joinA A j w f = A f := by
  unfold joinA
  rw [upA_f h1, upA_f h3, upA_f h2]
theorem INV_join (hi : INV A T) (h1 : 0 ≤ j) (h2 : j < A 0 3) (h3 : A 44 j < 20) (h4 : 0 ≤ w) (h5 : w < A 0 2) : INV (joinA A j w) T := by
  obtain ⟨g, x, wx, sx, z, cx, px⟩ := hi
  have e : ∀ f, f ≠ 44 → f ≠ 60 → f ≠ 61 → joinA A j w f = A f := fun f a b c => joinA_f a b c
  have e44 : ∀ y, joinA A j w 44 y = if y = j then A 44 j + 1 else A 44 y := fun y => by unfold joinA; rw [upA_s]; by_cases hy : y = j <;> simp (disch := omega) only [hy, if_pos, if_neg, if_true, if_false, upA_n]
  have e60 : ∀ y, joinA A j w 60 y = if y = 20 * j + A 44 j then w else A 60 y := fun y => by unfold joinA; rw [upA_n (by decide), upA_n (by decide), upA_s]
  have e61 : ∀ y, joinA A j w 61 y = if y = 20 * j + A 44 j then A 0 5 else A 61 y := fun y => by unfold joinA; rw [upA_n (by decide), upA_s]; by_cases hy : y = 20 * j + A 44 j <;> simp (disch := omega) only [hy, if_pos, if_neg, if_true, if_false, upA_n]
  unfold INV
  rw [e 0 (by decide) (by decide) (by decide), e 20 (by decide) (by decide) (by decide), e 21 (by decide) (by decide) (by decide), e 22 (by decide) (by decide) (by decide), e 25 (by decide) (by decide) (by decide), e 26 (by decide) (by decide) (by decide), e 27 (by decide) (by decide) (by decide), e 30 (by decide) (by decide) (by decide), e 31 (by decide) (by decide) (by decide), e 32 (by decide) (by decide) (by decide), e 33 (by decide) (by decide) (by decide), e 35 (by decide) (by decide) (by decide), e 40 (by decide) (by decide) (by decide), e 41 (by decide) (by decide) (by decide), e 42 (by decide) (by decide) (by decide), e 43 (by decide) (by decide) (by decide), e 49 (by decide) (by decide) (by decide), e 50 (by decide) (by decide) (by decide), e 51 (by decide) (by decide) (by decide), e 52 (by decide) (by decide) (by decide), e 53 (by decide) (by decide) (by decide)]
  refine ⟨g, x, wx, fun y y1 y2 => ?_, fun y y1 y2 => ?_, cx, px⟩
  · obtain ⟨b1, b2, b3, b4, b5, b6, b7, b8, b9, b10, b11, b12, b13⟩ := sx y y1 y2
    rw [e44]
    have hb : 0 ≤ (if y = j then A 44 j + 1 else A 44 y) ∧ (if y = j then A 44 j + 1 else A 44 y) ≤ 20 := by
      by_cases hy : y = j
      · subst hy; rw [if_pos rfl]; omega
      · rw [if_neg hy]; omega
    refine ⟨b1, b2, b3, b4, b5, b6, b7, b8, hb.1, hb.2, b11, b12, fun k k1 k2 => ?_⟩
    rw [e60, e61]
    by_cases hy : y = j
    · subst hy
      rw [if_pos rfl] at k2
      by_cases hk : k = A 44 y
      · rw [if_pos (by omega), if_pos (by omega)]
        exact ⟨h4, h5, g.2.2.2.2.2.2.2.2.2.2.1, Int.le_refl _⟩
      · rw [if_neg (by omega), if_neg (by omega)]
        exact b13 k k1 (by omega)
    · rw [if_neg hy] at k2
      have h20 : A 44 j ≤ 20 ∧ 0 ≤ A 44 j := by
        obtain ⟨-, -, -, -, -, -, -, -, q9, q10, -⟩ := sx j h1 h2
        exact ⟨q10, q9⟩
      rw [if_neg (by omega), if_neg (by omega)]
      exact b13 k k1 k2
  · rw [e44, if_neg (by omega)]
    exact z y y1 y2
/-- one coming, at its tick -/
def comeA (off : Int) (A : AT) (c : Int) : AT := if A 50 c = off ∨ dueA A c ≠ 0 then A else if A 41 (A 50 c) ≤ A 44 (A 50 c) then upA (upA A 0 7 (A 0 7 + 1)) 48 (A 50 c) (A 48 (A 50 c) + 1) else joinA A (A 50 c) (A 51 c)
def comesA (off : Int) : Nat → Int → AT → AT
  | 0, _, A => A
  | n + 1, c, A => comesA off n (c + 1) (comeA off A c)
theorem come_SP : SP A (comeA off A c) := by
  unfold comeA
  split
  · exact SP.rf
  · split
    · refine ⟨?_, ?_, ?_, ?_, ?_, ?_, ?_, ?_, ?_, ?_, ?_, ?_, ?_, ?_, ?_, ?_, ?_⟩ <;> simp (disch := omega) only [upA_f, upA_n, upA_d]
    · refine ⟨?_, ?_, ?_, ?_, ?_, ?_, ?_, ?_, ?_, ?_, ?_, ?_, ?_, ?_, ?_, ?_, ?_⟩ <;> simp (disch := omega) only [joinA_f]
theorem come_tick : comeA off A c 0 5 = A 0 5 := by
  unfold comeA
  split
  · rfl
  · split
    · simp (disch := omega) only [upA_f, upA_n, upA_d]
    · simp (disch := omega) only [joinA_f]
theorem come_INV (hi : INV A T) (h1 : 0 ≤ c) (h2 : c < A 0 4) : INV (comeA off A c) T := by
  obtain ⟨b1, b2, b3, b4, b5, b6, b7, b8⟩ := hi.2.2.2.2.2.1 c h1 h2
  obtain ⟨d1, d2, d3, d4, d5, d6, d7, d8, d9, d10, d11, d12, d13⟩ := hi.2.2.2.1 (A 50 c) b1 b2
  unfold comeA
  split
  · exact hi
  · split
    · refine INV_same hi (fun k k1 k2 => by rw [upA_n (by decide), upA_d k2]) (fun f hf => ?_)
      have h0 : f ≠ 0 ∧ f ≠ 48 := by
        simp only [List.mem_cons, List.not_mem_nil, or_false] at hf
        omega
      rw [upA_f h0.2, upA_f h0.1]
    · exact INV_join hi b1 b2 (by omega) b3 b4
/-- a plan, a state of the memory: the world of a state's method -/
def WS (M : Mem) (p s : Nat) (A : AT) (T : Int) : Prop := PLv M p A ∧ PlL p ∧ STv M s A ∧ StL s ∧ INV A T ∧ T < 1000000 ∧ (p + 34 ≤ s ∨ s + 50 ≤ p)
theorem WS.of (h : WS M p s A T) (hs : STv M' s A') (hM : ∀ b, (b < s ∨ s + 50 ≤ b) → M' b = M b) (hA : SP A A') (hi : INV A' T) : WS M' p s A' T := by
  obtain ⟨w1, w2, w3, w4, w5, w6, w7⟩ := h
  exact ⟨PLv_k w1 (fun b b1 b2 _ _ => hM b (by omega)) hA, w2, hs, w4, hi, w6, w7⟩
theorem S158b (h : WS M p s A T) (ho : M s 17 = ii off) (ho2 : -1 ≤ off ∧ off < 100) (h1 : 0 ≤ c) (h2 : c < A 0 4) {z3 : PV} : ∃ M' z, ev true 158 0 2 [pR 6 s, pR 5 p, pI (ii c), z3] [] M X = ev true 158 0 2 [pR 6 s, pR 5 p, pI (ii (c + 1)), z] [] M' X ∧ WS M' p s (comeA off A c) T ∧ FrI s M M' := by
  have hw := h
  obtain ⟨hp, hpl, hs, hl, hi, hT, hd⟩ := h
  obtain ⟨b1, b2, b3, b4, b5, b6, b7, b8⟩ := hi.2.2.2.2.2.1 c h1 h2
  obtain ⟨d1, d2, d3, d4, d5, d6, d7, d8, d9, d10, d11, d12, d13⟩ := hi.2.2.2.1 (A 50 c) b1 b2
  obtain ⟨g1, g2, g3, g4, g5, g6, g7, g8, g9, g10, g11, g12, -⟩ := hi.1
  obtain ⟨m1, m2, m3, m4, m5, m6, m7, m8, m9, m10, m11, m12, m13, m14, m15, m16⟩ := hpl
  have hpl : PlL p := ⟨m1, m2, m3, m4, m5, m6, m7, m8, m9, m10, m11, m12, m13, m14, m15, m16⟩
  have e1 := hp.2.2.2.2.1
  have e2 := hp.2.2.2.2.2.2.2.2.2.2.2.1 c h1 h2
  have e3 := hp.2.2.2.2.2.2.2.2.2.2.2.2.1 c h1 h2
  have e4 := hs.1
  obtain ⟨v1, v2⟩ := due_ge hi h1 h2
  have l35 : rl (s + 35) = 6 := hl.2.2.2.2.2.2.2.2.2.2.2.1
  have hqu : QuL (s + 14) := ⟨hl.2.1, hl.2.2.1, hl.2.2.2.1⟩
  rw [q158_2, e1, ltT (by omega), S12 h1 (by omega), kb1, q158_18, e2, ho]
  by_cases c1 : A 50 c = off
  · rw [eqT c1, q158_82, i_1, ii_add]
    refine ⟨M, _, rfl, ?_, FrI.rf⟩
    unfold comeA
    rw [if_pos (Or.inl c1)]
    exact hw
  · rw [eqF (by omega), e4, S65 hp hpl hi hT h1 h2, kb1, q158_36, i_0]
    by_cases c2 : dueA A c = 0
    · rw [c2, eqT rfl, S67 hs hl hi b1 b2, kb1, q158_47, i_0, bIT]
      have hc : ¬ (A 50 c = off ∨ dueA A c ≠ 0) := by omega
      by_cases c3 : A 41 (A 50 c) ≤ A 44 (A 50 c)
      · rw [decide_eq_true c3, cond_true, i_1, S15 b1 (by omega), kb0, q158_59, q158_82, i_1, ii_add]
        have e48 : cl M (s + 35) (A 50 c) = ii (A 48 (A 50 c)) := hs.2.2.2.2.2.2.2.2.2.2.2.1 (A 50 c) b1 (by omega)
        refine ⟨_, _, rfl, ?_, fr_sc (by omega) (by omega)⟩
        have hcm := come_SP (off := off) (A := A) (c := c)
        have hci := come_INV (off := off) hi h1 h2
        refine WS.of hw ?_ (fun b hb => by funext i; exact sc_n (by omega)) hcm hci
        unfold comeA
        rw [if_neg hc, if_pos c3, e48, ii_add]
        have h9 := ST_48 (v := A 48 (A 50 c) + 1) hs b1
        refine ST_abs h9 rfl (fun f f1 f2 => ?_) (fun k k1 k2 => ?_)
        · by_cases f3 : f = 48
          · subst f3
            funext y
            rw [upA_s, upA_s, upA_f (by decide)]
          · rw [upA_f f3, upA_f f3, upA_f f1]
        · simp (disch := omega) only [upA_n, upA_d]
      · obtain ⟨M', r1, r2, r3⟩ := S92 (X := X) (w := A 51 c) hs.2.2.1 hqu b1 (by omega) (by omega)
        rw [decide_eq_false c3, cond_false, S12 h1 (by omega), kb1, q158_75, e3, e4, r1, kb0, q158_82, i_1, ii_add]
        refine ⟨M', _, rfl, ?_, fun b hb => r3 b (by omega)⟩
        have hcm := come_SP (off := off) (A := A) (c := c)
        have hci := come_INV (off := off) hi h1 h2
        refine WS.of hw ?_ (fun b hb => r3 b (by omega)) hcm hci
        unfold comeA
        rw [if_neg hc, if_neg c3]
        exact ST_que hs r2 (fun b hb => r3 b (by omega)) (fun f f1 f2 f3 => joinA_f f1 f2 f3)
    · rw [eqF (by omega), q158_82, i_1, ii_add]
      refine ⟨M, _, rfl, ?_, FrI.rf⟩
      unfold comeA
      rw [if_pos (Or.inr c2)]
      exact hw
theorem S158l (ho2 : -1 ≤ off ∧ off < 100) : ∀ (m : Nat) (c : Int) (A : AT) (M : Mem) (z3 : PV), c + m = A 0 4 → 0 ≤ c → M s 17 = ii off → WS M p s A T → ∃ M', ev true 158 0 2 [pR 6 s, pR 5 p, pI (ii c), z3] [] M X = some (.inl none, M', X) ∧ WS M' p s (comesA off m c A) T ∧ FrI s M M' := by
  intro m
  induction m with
  | zero =>
    intro c A M z3 h1 h2 ho h
    have e1 := h.1.2.2.2.2.1
    have g := h.2.2.2.2.1.1
    exact ⟨M, by rw [q158_2, e1, ltF (by omega)], h, FrI.rf⟩
  | succ m ih =>
    intro c A M z3 h1 h2 ho h
    obtain ⟨M1, z, r1, r2, r3⟩ := S158b (X := X) (z3 := z3) h ho ho2 h2 (by omega)
    obtain ⟨M2, t1, t2, t3⟩ := ih (c + 1) (comeA off A c) M1 z (by rw [come_SP.2.2.2.2.1]; omega) (by omega) (by rw [r3 s (by omega)]; exact ho) r2
    exact ⟨M2, by rw [r1, t1], t2, r3.tr t3⟩
def allComeA (off : Int) (A : AT) : AT := comesA off (A 0 4).toNat 0 A
theorem S158 (h : WS M p s A T) (ho : M s 17 = ii off) (ho2 : -1 ≤ off ∧ off < 100) : ∃ M', ev true 158 0 0 [pR 6 s, pR 5 p, p0, p0] [] M X = some (.inl none, M', X) ∧ WS M' p s (allComeA off A) T ∧ FrI s M M' := by
  have g := h.2.2.2.2.1.1
  obtain ⟨M', t1, t2, t3⟩ := S158l (X := X) ho2 (A 0 4).toNat 0 A M p0 (by omega) (by omega) ho h
  exact ⟨M', by rw [q158_0, i_0, t1], t2, t3⟩
end COM
