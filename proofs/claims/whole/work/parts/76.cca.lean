/-! the calls that change something: the class -/
section CCA
set_option maxRecDepth 100000
variable {u p v l g : Nat} {j q e w c T T' tu tv nx off sh i z y N t x a b d : Int} {A B C I I' A' B' : AT} {M M' M0 : Mem} {X : PX} {L : Bool} {n s m : Nat} {Q Q' : Nat → AT} {k : Bool} {D : Nat → Int} {f : Int}
def B32 (z : Int) : Prop := -2147483648 ≤ z ∧ z < 2147483648
section KT
variable {m nx : Nat} {K : KT} {ls r : List PV} {X : PX} {M' : Mem} {v : PV}
theorem kt0 : (some ((.inl none, M', X) : PRs)).bind (kRet true true m 0 0 nx K ls r X) = K nx ls r M' X := rfl
theorem kt1 : (some ((.inl (some v), M', X) : PRs)).bind (kRet true true m 0 0 nx K ls r X) = K nx ls (v :: r) M' X := rfl
end KT
/-- nothing made yet in this frame -/
def XZ (X : PX) : Prop := X.2.2.2.1 = 0 ∧ X.2.2.2.2.1 = 0
def thX (X : PX) : PX := (X.1, X.2.1, X.2.2.1 + 1, X.2.2.2.1 + 1, X.2.2.2.2.1 + 6, X.2.2.2.2.2)
theorem thT {e : Nat} (hX : XZ X) (h1 : Nat.ble 1 (mcM m) = true) (h2 : Nat.ble 6 (msM m) = true) : (if X.2.2.2.1 + 1 ≤ mcM m ∧ X.2.2.2.2.1 + 6 ≤ msM m then some ((.inr e, M, X.1, X.2.1, X.2.2.1 + 1, X.2.2.2.1 + 1, X.2.2.2.2.1 + 6, X.2.2.2.2.2) : PRs) else none) = some (.inr e, M, thX X) := by
  have a := Nat.le_of_ble_eq_true h1
  have b := Nat.le_of_ble_eq_true h2
  rw [if_pos ⟨by rw [hX.1]; omega, by rw [hX.2]; omega⟩]
  rfl
theorem S1 (ha : B32 a) (hb : 0 ≤ b ∧ b < 1000) : ev true 1 0 0 [pI (ii a), pI (ii b)] [] M X = some (.inl (some (pI (bI (decide (0 ≤ a ∧ a < b))))), M, X) := by
  obtain ⟨a1, a2⟩ := ha
  rw [q1_0, i_0, ilt (by omega)]
  by_cases c : a < 0
  · rw [if_pos c, q1_13, i_0, q1_14, rk0, decide_eq_false (by omega)]; rfl
  · rw [if_neg c, ilt (by omega)]
    by_cases d : a < b
    · rw [if_pos d, i_1, q1_14, rk1, decide_eq_true ⟨by omega, d⟩]; rfl
    · rw [if_neg d, q1_13, i_0, q1_14, rk0, decide_eq_false (by omega)]; rfl
theorem SP.sy (h : SP A B) : SP B A := by
  obtain ⟨a1, a2, a3, a4, a5, a6, a7, a8, a9, a10, a11, a12, a13, a14, a15, a16, a17⟩ := h
  exact ⟨a1.symm, a2.symm, a3.symm, a4.symm, a5.symm, a6.symm, a7.symm, a8.symm, a9.symm, a10.symm, a11.symm, a12.symm, a13.symm, a14.symm, a15.symm, a16.symm, a17.symm⟩
theorem GON.mv (h : GON A) (h0 : A' 0 3 = A 0 3) (h5 : A' 0 5 = A 0 5) (h6 : A' 46 = A 46) : GON A' := by
  unfold GON
  rw [h0, h5, h6]
  exact h
theorem join_SP : SP A (joinA A j w) := by
  refine ⟨?_, ?_, ?_, ?_, ?_, ?_, ?_, ?_, ?_, ?_, ?_, ?_, ?_, ?_, ?_, ?_, ?_⟩ <;> simp (disch := omega) only [joinA_f]
theorem join_PW (h : PW A T) (h1 : 0 ≤ j) (h2 : j < A 0 3) (h3 : A 44 j < A 41 j) (h4 : 0 ≤ w) (h5 : w < A 0 2) : PW (joinA A j w) T := by
  obtain ⟨hi, hh, hl, hs, hg⟩ := h
  have f : ∀ g, g ≠ 44 → g ≠ 60 → g ≠ 61 → joinA A j w g = A g := fun g a b c => joinA_f a b c
  obtain ⟨d1, d2, d3, d4, -⟩ := hi.2.2.2.1 j h1 h2
  exact ⟨INV_join hi h1 h2 (by omega) h4 h5, hh.mv (by rw [f _ (by decide) (by decide) (by decide)]) (by rw [f _ (by decide) (by decide) (by decide)]) (f _ (by decide) (by decide) (by decide)) (f _ (by decide) (by decide) (by decide)), hl.sp join_SP, hs.mv (by rw [f _ (by decide) (by decide) (by decide)]) (by rw [f _ (by decide) (by decide) (by decide)]) (f _ (by decide) (by decide) (by decide)) (f _ (by decide) (by decide) (by decide)) (f _ (by decide) (by decide) (by decide)), hg.mv (by rw [f _ (by decide) (by decide) (by decide)]) (by rw [f _ (by decide) (by decide) (by decide)]) (f _ (by decide) (by decide) (by decide))⟩
theorem set_PW {g : Nat} (h : PW A T) (hg : g = 32 ∨ g = 41 ∨ g = 42 ∨ g = 43) (h1 : 0 ≤ j) (hv : (g = 32 → 0 ≤ x ∧ x ≤ 999) ∧ (g = 41 → 1 ≤ x ∧ x ≤ 20) ∧ (g = 42 → 0 ≤ x ∧ x < A 0 0) ∧ (g = 43 → 1 ≤ x ∧ x ≤ 9)) : PW (upA A g j x) T ∧ SP A (upA A g j x) := by
  obtain ⟨hi, hh, hl, hs, hgo⟩ := h
  have f : ∀ y, y ≠ g → upA A g j x y = A y := fun y hy => upA_f hy
  have sp : SP A (upA A g j x) := ⟨by rw [f _ (by omega)], by rw [f _ (by omega)], by rw [f _ (by omega)], by rw [f _ (by omega)], by rw [f _ (by omega)], by rw [f _ (by omega)], f _ (by omega), f _ (by omega), f _ (by omega), f _ (by omega), f _ (by omega), f _ (by omega), f _ (by omega), f _ (by omega), f _ (by omega), f _ (by omega), f _ (by omega)⟩
  refine ⟨⟨?_, hh.mv (by rw [f _ (by omega)]) (by rw [f _ (by omega)]) (f _ (by omega)) (f _ (by omega)), hl.sp sp, hs.mv (by rw [f _ (by omega)]) (by rw [f _ (by omega)]) (f _ (by omega)) (f _ (by omega)) (f _ (by omega)), hgo.mv (by rw [f _ (by omega)]) (by rw [f _ (by omega)]) (f _ (by omega))⟩, sp⟩
  obtain ⟨gg, xx, wx, sx, zz, cx, px⟩ := hi
  refine ⟨?_, fun y y1 y2 => ?_, ?_, fun y y1 y2 => ?_, ?_, ?_, ?_⟩
  · rw [f 0 (by omega)]; exact gg
  · rw [f 0 (by omega)] at y2
    rw [f 30 (by omega), f 31 (by omega), f 33 (by omega), f 35 (by omega), f 0 (by omega)]
    obtain ⟨y3, y4, y5, y6, y7, y8, y9, y10, y11, y12⟩ := xx y y1 y2
    have h9 : 0 ≤ upA A g j x 32 y ∧ upA A g j x 32 y ≤ 999 := by
      by_cases hc : g = 32
      · subst hc
        rw [upA_s]
        have := hv.1 rfl
        split <;> omega
      · rw [f 32 (by omega)]; omega
    exact ⟨y3, y4, y5, y6, h9.1, h9.2, y9, y10, y11, y12⟩
  · rw [f 26 (by omega), f 27 (by omega), f 0 (by omega)]; exact wx
  · rw [f 0 (by omega)] at y2
    rw [f 40 (by omega), f 44 (by omega), f 49 (by omega), f 60 (by omega), f 61 (by omega), f 0 (by omega)]
    obtain ⟨b1, b2, b3, b4, b5, b6, b7, b8, b9, b10, b11, b12, b13⟩ := sx y y1 y2
    have e41 : 1 ≤ upA A g j x 41 y ∧ upA A g j x 41 y ≤ 20 := by
      by_cases hc : g = 41
      · subst hc
        rw [upA_s]
        have := hv.2.1 rfl
        split <;> omega
      · rw [f 41 (by omega)]; omega
    have e42 : 0 ≤ upA A g j x 42 y ∧ upA A g j x 42 y < A 0 0 := by
      by_cases hc : g = 42
      · subst hc
        rw [upA_s]
        have := hv.2.2.1 rfl
        split <;> omega
      · rw [f 42 (by omega)]; omega
    have e43 : 1 ≤ upA A g j x 43 y ∧ upA A g j x 43 y ≤ 9 := by
      by_cases hc : g = 43
      · subst hc
        rw [upA_s]
        have := hv.2.2.2 rfl
        split <;> omega
      · rw [f 43 (by omega)]; omega
    exact ⟨b1, b2, e41.1, e41.2, e42.1, e42.2, e43.1, e43.2, b9, b10, b11, b12, b13⟩
  · rw [f 0 (by omega), f 44 (by omega)]; exact zz
  · rw [f 50 (by omega), f 51 (by omega), f 52 (by omega), f 53 (by omega), f 0 (by omega)]; exact cx
  · rw [f 20 (by omega), f 21 (by omega), f 22 (by omega), f 25 (by omega), f 0 (by omega)]; exact px
theorem ZW.le (h : ZW T A n Q k I s D f) (h1 : T ≤ T') : ZW T' A n Q k I s D f := ⟨h.1.le h1, h.2.1, fun i hi => ⟨(h.2.2.1 i hi).1.le h1, (h.2.2.1 i hi).2⟩, fun hk => (h.2.2.2.1 hk).le h1, h.2.2.2.2⟩
/-- the main state another one of the same plan, an act more kept -/
theorem ZW.keep (h : ZW T A n Q k I s D f) (hp : PW A' T) (hs : SP A A') : ZW T A' (kpN n) (kpQ n Q A) k I s D f := by
  obtain ⟨h1, h2, h3, h4⟩ := h
  refine ⟨hp, (kp_in h2).2, fun i hi => ?_, h4⟩
  unfold kpQ
  by_cases c : i + 1 = kpN n
  · rw [if_pos c]; exact ⟨h1, hs.sy⟩
  · rw [if_neg c]
    unfold kpN at hi c
    split
    · next hc =>
      rw [if_pos hc] at hi c
      obtain ⟨a1, a2⟩ := h3 (i + 1) (by omega)
      exact ⟨a1, hs.sy.tr a2⟩
    · next hc =>
      rw [if_neg hc] at hi c
      obtain ⟨a1, a2⟩ := h3 i (by omega)
      exact ⟨a1, hs.sy.tr a2⟩
theorem WTof (h : CW M A n Q k I s D f) (hz : ZW T A n Q k I s D f) (hT : T < 1000000) : WT M 49 83 A T := ⟨⟨h.1.1, pll49, h.1.2.1, stl83, hz.1.1, hT, by omega⟩, hz.1.2.1, hz.1.2.2.1⟩
theorem CSof (h : WT M 49 83 A T) (ho : M 83 17 = ii (-1)) : CS M A := ⟨h.1.1, h.1.2.2.1, ho⟩
/-- an act is kept -/
theorem C_keep (h : CW M A n Q k I s D f) (hi : INV A T) : ∃ M', ev true 235 0 0 [pR 7 133, pR 6 83] [] M X = some (.inl none, M', X) ∧ CW M' A (kpN n) (kpQ n Q A) k I s D f ∧ ∀ b, b < 133 ∨ 635 ≤ b → M' b = M b := by
  obtain ⟨h1, h2, h3, h4, h5⟩ := h
  obtain ⟨M', a1, a2, a3⟩ := S235 (X := X) h1.2.1 hi h1.2.2 h2
  exact ⟨M', a1, ⟨⟨PLv_k h1.1 (fun b c1 c2 _ _ => a3 b (by omega)) SP.rf, STv_k h1.2.1 (fun b c1 c2 => a3 b (by omega)) rfl, by rw [a3 83 (by omega)]; exact h1.2.2⟩, a2, CI_k h3 (by rw [a3 0 (by omega)]) (fun b c1 c2 => a3 b (by omega)), CD0_k h4 (by rw [a3 1 (by omega)]) (a3 3 (by omega)), by rw [a3 0 (by omega)]; exact h5⟩, a3⟩
def pshB (A : AT) (a b : Int) : Prop := (0 ≤ a ∧ a < A 0 3) ∧ (0 ≤ b ∧ b < A 0 2) ∧ A 44 a < A 41 a
theorem C_push_n (h : CW M A n Q k I s D f) (hi : INV A T) (ha : B32 a) (hb : B32 b) (hc : ¬ pshB A a b) : ev true 243 0 0 [pR 1 0, pI (ii a), pI (ii b)] [] M X = some (.inl (some (pI (ii (-1)))), M, X) := by
  obtain ⟨h1, -⟩ := h
  have g := hi.1
  have e7 := h1.1.2.2.2.1
  have e4 := h1.1.2.2.1
  rw [q243_0, e7, S1 ha (by omega), kb1, q243_11, i_0, bIT]
  by_cases c1 : 0 ≤ a ∧ a < A 0 3
  · rw [decide_eq_true c1, cond_true, e4, S1 hb (by omega), kb1, q243_25, i_0, bIT]
    by_cases c2 : 0 ≤ b ∧ b < A 0 2
    · rw [decide_eq_true c2, cond_true, S67 h1.2.1 stl83 hi c1.1 c1.2, kb1, q243_36, i_0, bIT]
      have c3 : A 41 a ≤ A 44 a := by
        rcases Int.lt_or_le (A 44 a) (A 41 a) with h | h
        · exact absurd ⟨c1, c2, h⟩ hc
        · exact h
      rw [decide_eq_true c3, cond_true, q243_39, ii_m1]
    · rw [decide_eq_false c2, cond_false, q243_39, ii_m1]
  · rw [decide_eq_false c1, cond_false, q243_39, ii_m1]
theorem C_push_y (h : CW M A n Q k I s D f) (hi : INV A T) (ha : B32 a) (hb : B32 b) (hc : pshB A a b) : ∃ M', ev true 243 0 0 [pR 1 0, pI (ii a), pI (ii b)] [] M X = some (.inl (some (pI (ii (A 44 a + 1)))), M', X) ∧ CW M' (joinA A a b) (kpN n) (kpQ n Q A) k I s D f ∧ ∀ b, 819 ≤ b → M' b = M b := by
  obtain ⟨c1, c2, c3⟩ := hc
  have g := hi.1
  obtain ⟨d1, d2, d3, d4, d5, d6, d7, d8, d9, d10, -⟩ := hi.2.2.2.1 a c1.1 c1.2
  obtain ⟨M1, a1, a2, a3⟩ := C_keep (X := X) h hi
  have hs1 := a2.1.2.1
  have hq : QuL 97 := ⟨stl83.2.1, stl83.2.2.1, stl83.2.2.2.1⟩
  obtain ⟨M2, b1, b2, b3⟩ := S92 (X := X) (u := 97) (w := b) hs1.2.2.1 hq c1.1 (by omega) (by omega)
  have hs2 : STv M2 83 (joinA A a b) := ST_que hs1 b2 (fun y hy => b3 y (by omega)) (fun f f1 f2 f3 => joinA_f f1 f2 f3)
  have e5 : M1 83 0 = ii (A 0 5) := hs1.1
  have e7 := h.1.1.2.2.2.1
  have e4 := h.1.1.2.2.1
  have r44 : cl M2 102 a = ii (A 44 a + 1) := by
    have := (hs2.2.2.1 a c1.1 (by omega)).2.2.1
    rw [join_44, if_pos rfl] at this
    exact this
  refine ⟨M2, ?_, a2.mv ⟨PLv_k a2.1.1 (fun y c1 c2 _ _ => b3 y (by omega)) join_SP, hs2, by rw [b3 83 (by omega)]; exact a2.1.2.2⟩ (fun y c1 c2 c3 c4 => b3 y (by omega)), fun y hy => by rw [b3 y (by omega), a3 y (by omega)]⟩
  have l102 : rl 102 = 6 := stl83.2.2.2.1
  rw [q243_0, e7, S1 ha (by omega), kb1, q243_11, i_0, bIT, decide_eq_true c1, cond_true, e4, S1 hb (by omega), kb1, q243_25, i_0, bIT, decide_eq_true c2, cond_true, S67 h.1.2.1 stl83 hi c1.1 c1.2, kb1, q243_36, i_0, bIT, decide_eq_false (by omega), cond_false, a1, kb0, q243_52, e5, b1, kb0, q243_71, S12 c1.1 (by omega), kb1, q243_85, r44]
/-- an exit is shut -/
theorem C_shut_1 (h : CW M A n Q k I s D f) (hi : INV A T) (hX : XZ X) (ha : B32 a) (hc : ¬ (0 ≤ a ∧ a < A 0 1)) : ev true 245 0 0 [pR 1 0, pI (ii a), pI (ii b), p0] [] M X = some (.inr 1, M, thX X) := by
  have g := hi.1
  have e1 := h.1.1.2.1
  rw [q245_0, e1, S1 ha (by omega), kt1, q245_11, i_0, bIT, decide_eq_false hc, cond_false, thT hX (by decide) (by decide)]
theorem C_shut_2 (h : CW M A n Q k I s D f) (hi : INV A T) (hX : XZ X) (ha : B32 a) (hb : B32 b) (hc : 0 ≤ a ∧ a < A 0 1) (hn : ¬ (0 ≤ b ∧ b ≤ 999)) : ev true 245 0 0 [pR 1 0, pI (ii a), pI (ii b), p0] [] M X = some (.inr 2, M, thX X) := by
  have g := hi.1
  have e1 := h.1.1.2.1
  obtain ⟨b1, b2⟩ := hb
  rw [q245_0, e1, S1 ha (by omega), kt1, q245_11, i_0, bIT, decide_eq_true hc, cond_true, ilt (by omega), i_999, ilt (by omega)]
  by_cases c1 : b < 0
  · rw [if_pos c1, q245_33, thT hX (by decide) (by decide)]
  · rw [if_neg c1, if_pos (by omega), q245_33, thT hX (by decide) (by decide)]
theorem C_shut_y (h : CW M A n Q k I s D f) (hi : INV A T) (ha : B32 a) (hc : 0 ≤ a ∧ a < A 0 1) (hn : 0 ≤ b ∧ b ≤ 999) : ∃ M', ev true 245 0 0 [pR 1 0, pI (ii a), pI (ii b), p0] [] M X = some (.inl (some (pI (ii (A 32 a)))), M', X) ∧ CW M' (upA A 32 a b) (kpN n) (kpQ n Q A) k I s D f ∧ ∀ b, 819 ≤ b → M' b = M b := by
  have g := hi.1
  have e1 := h.1.1.2.1
  obtain ⟨M1, a1, a2, a3⟩ := C_keep (X := X) h hi
  have hs2 := ST_32 (v := b) a2.1.2.1 hc.1
  have l41 : rl 124 = 6 := by obtain ⟨-, -, -, -, -, -, -, -, -, -, -, -, -, -, l41, -⟩ := stl83; exact l41
  have r32 : cl M1 124 a = ii (A 32 a) := by obtain ⟨-, -, -, -, -, -, -, -, -, -, -, -, -, -, h, -⟩ := a2.1.2.1; exact h a hc.1 hc.2
  refine ⟨sc M1 124 a (ii b), ?_, a2.mv ⟨PLv_k a2.1.1 (fun y c1 c2 _ _ => by funext z; exact sc_n (by omega)) ?_, hs2, by rw [sc_n (by decide)]; exact a2.1.2.2⟩ (fun y c1 c2 c3 c4 => by funext z; exact sc_n (by omega)), fun y hy => ?_⟩
  · rw [q245_0, e1, S1 ha (by omega), kt1, q245_11, i_0, bIT, decide_eq_true hc, cond_true, ltF (by omega), i_999, ltF (by omega), a1, kt0, q245_52, S12 hc.1 (by omega), kt1, r32, q245_63, S11 hc.1 (by omega), kt0, q245_76]
  · refine ⟨?_, ?_, ?_, ?_, ?_, ?_, ?_, ?_, ?_, ?_, ?_, ?_, ?_, ?_, ?_, ?_, ?_⟩ <;> simp (disch := omega) only [upA_f]
  · rw [← a3 y (by omega)]; funext z; exact sc_n (by omega)
/-- what of a side can be changed -/
def chF (b : Int) : Nat := if b = 0 then 41 else if b = 1 then 42 else 43
def chB (A : AT) (b v : Int) : Prop := (b = 0 → 1 ≤ v ∧ v ≤ 20) ∧ (b = 1 → 0 ≤ v ∧ v < A 0 0) ∧ (b = 2 → 1 ≤ v ∧ v ≤ 9)
theorem S2 (h : CS M A) (hi : INV A T) (hb : 0 ≤ b ∧ b < 3) (hd : B32 d) : ∃ r : Bool, ev true 2 0 0 [pR 1 0, pI (ii b), pI (ii d)] [] M X = some (.inl (some (pI (bI r))), M, X) ∧ (r = true ↔ chB A b d) := by
  have g := hi.1
  have e0 := h.1.1
  obtain ⟨d1, d2⟩ := hd
  unfold chB
  rw [q2_0, i_0, i_1, i_9, i_20, e0, ieq (by omega), ieq (by omega), ilt (by omega), ilt (by omega), ilt (by omega), ilt (by omega), ilt (by omega)]
  by_cases c0 : b = 0
  · rw [if_pos c0]
    by_cases c1 : d < 1
    · exact ⟨false, by rw [if_pos c1, q2_43, i_0, q2_44, rk0]; rfl, fun z => absurd z (by decide), fun z => by have := z.1 c0; omega⟩
    · rw [if_neg c1]
      by_cases c2 : 20 < d
      · exact ⟨false, by rw [if_pos c2, q2_43, i_0, q2_44, rk0]; rfl, fun z => absurd z (by decide), fun z => by have := z.1 c0; omega⟩
      · exact ⟨true, by rw [if_neg c2, q2_44, rk1]; rfl, fun _ => ⟨fun _ => by omega, fun z => by omega, fun z => by omega⟩, fun _ => rfl⟩
  · rw [if_neg c0]
    by_cases c1 : b = 1
    · rw [if_pos c1]
      by_cases c2 : d < 0
      · exact ⟨false, by rw [if_pos c2, q2_64, i_0, q2_65, rk0]; rfl, fun z => absurd z (by decide), fun z => by have := z.2.1 c1; omega⟩
      · rw [if_neg c2]
        by_cases c3 : d < A 0 0
        · exact ⟨true, by rw [if_pos c3, q2_65, rk1]; rfl, fun _ => ⟨fun z => by omega, fun _ => by omega, fun z => by omega⟩, fun _ => rfl⟩
        · exact ⟨false, by rw [if_neg c3, q2_64, i_0, q2_65, rk0]; rfl, fun z => absurd z (by decide), fun z => by have := z.2.1 c1; omega⟩
    · rw [if_neg c1]
      by_cases c2 : d < 1
      · exact ⟨false, by rw [if_pos c2, q2_81, i_0, q2_82, rk0]; rfl, fun z => absurd z (by decide), fun z => by have := z.2.2 (by omega); omega⟩
      · rw [if_neg c2]
        by_cases c3 : 9 < d
        · exact ⟨false, by rw [ltT (by omega), q2_81, i_0, q2_82, rk0]; rfl, fun z => absurd z (by decide), fun z => by have := z.2.2 (by omega); omega⟩
        · exact ⟨true, by rw [ltF (by omega), q2_82, rk1]; rfl, fun _ => ⟨fun z => by omega, fun z => by omega, fun _ => by omega⟩, fun _ => rfl⟩
theorem C_change_1 (h : CW M A n Q k I s D f) (hi : INV A T) (hX : XZ X) (ha : B32 a) (hb : B32 b) (hc : ¬ ((0 ≤ a ∧ a < A 0 3) ∧ (0 ≤ b ∧ b < 3))) : ev true 246 0 0 [pR 1 0, pI (ii a), pI (ii b), pI (ii d), p0, p0] [] M X = some (.inr 1, M, thX X) := by
  have g := hi.1
  have e7 := h.1.1.2.2.2.1
  rw [q246_0, e7, S1 ha (by omega), kt1, q246_11, i_0, bIT]
  by_cases c1 : 0 ≤ a ∧ a < A 0 3
  · rw [decide_eq_true c1, cond_true, i_3, S1 hb (by omega), kt1, q246_19, i_0, bIT, decide_eq_false (fun z => hc ⟨c1, z⟩), cond_false, q246_22, thT hX (by decide) (by decide)]
  · rw [decide_eq_false c1, cond_false, q246_22, thT hX (by decide) (by decide)]
theorem C_change_2 (h : CW M A n Q k I s D f) (hi : INV A T) (hX : XZ X) (ha : B32 a) (hb : B32 b) (hd : B32 d) (hc : (0 ≤ a ∧ a < A 0 3) ∧ (0 ≤ b ∧ b < 3)) (hn : ¬ chB A b d) : ev true 246 0 0 [pR 1 0, pI (ii a), pI (ii b), pI (ii d), p0, p0] [] M X = some (.inr 2, M, thX X) := by
  have g := hi.1
  have e7 := h.1.1.2.2.2.1
  obtain ⟨r, r1, r2⟩ := S2 (X := X) h.1 hi hc.2 hd
  have hr : r = false := by cases r with
    | false => rfl
    | true => exact absurd (r2.mp rfl) hn
  rw [q246_0, e7, S1 ha (by omega), kt1, q246_11, i_0, bIT, decide_eq_true hc.1, cond_true, i_3, S1 hb (by omega), kt1, q246_19, i_0, bIT, decide_eq_true hc.2, cond_true, r1, kt1, q246_36, i_0, bIT, hr, cond_false, thT hX (by decide) (by decide)]
theorem C_change_y (h : CW M A n Q k I s D f) (hi : INV A T) (ha : B32 a) (hb : B32 b) (hd : B32 d) (hc : (0 ≤ a ∧ a < A 0 3) ∧ (0 ≤ b ∧ b < 3)) (hn : chB A b d) : ∃ M', ev true 246 0 0 [pR 1 0, pI (ii a), pI (ii b), pI (ii d), p0, p0] [] M X = some (.inl (some (pI (ii (A (chF b) a)))), M', X) ∧ CW M' (upA A (chF b) a d) (kpN n) (kpQ n Q A) k I s D f ∧ ∀ b, 819 ≤ b → M' b = M b := by
  have g := hi.1
  have e7 := h.1.1.2.2.2.1
  obtain ⟨r, r1, r2⟩ := S2 (X := X) h.1 hi hc.2 hd
  have hr : r = true := r2.mpr hn
  obtain ⟨M1, a1, a2, a3⟩ := C_keep (X := X) h hi
  have fin : ∀ (t : Nat) (x2 : Int32), t + 1 < 133 → 83 ≤ t → t ≠ 82 → rl t = 6 → cl M1 t a = ii (A (chF b) a) → STv (sc M1 t a (ii d)) 83 (upA A (chF b) a d) → SP A (upA A (chF b) a d) → (∀ z0 z1, ev true 246 0 58 [pR 1 0, pI (ii a), pI x2, pI (ii d), z0, z1] [] M1 X = ev true 246 0 94 [pR 1 0, pI (ii a), pI x2, pI (ii d), z0, z1] [pR 8 t] M1 X) → ∃ M', ev true 246 0 58 [pR 1 0, pI (ii a), pI x2, pI (ii d), p0, p0] [] M1 X = some (.inl (some (pI (ii (A (chF b) a)))), M', X) ∧ CW M' (upA A (chF b) a d) (kpN n) (kpQ n Q A) k I s D f ∧ ∀ b, 819 ≤ b → M' b = M b := by
    intro t x2 t1 t2 t3 tl tc ts tsp te
    refine ⟨sc M1 t a (ii d), ?_, a2.mv ⟨PLv_k a2.1.1 (fun y c1 c2 _ _ => by funext z; exact sc_n (by omega)) tsp, ts, by rw [sc_n (by omega)]; exact a2.1.2.2⟩ (fun y c1 c2 c3 c4 => by funext z; exact sc_n (by omega)), fun y hy => ?_⟩
    · rw [te, q246_94, S12 hc.1.1 (by omega), kt1, tc, q246_102, S11 hc.1.1 (by omega), kt0, q246_111]
    · rw [← a3 y (by omega)]; funext z; exact sc_n (by omega)
  have pre : ev true 246 0 0 [pR 1 0, pI (ii a), pI (ii b), pI (ii d), p0, p0] [] M X = ev true 246 0 58 [pR 1 0, pI (ii a), pI (ii b), pI (ii d), p0, p0] [] M1 X := by
    rw [q246_0, e7, S1 ha (by omega), kt1, q246_11, i_0, bIT, decide_eq_true hc.1, cond_true, i_3, S1 hb (by omega), kt1, q246_19, i_0, bIT, decide_eq_true hc.2, cond_true, r1, kt1, q246_36, i_0, bIT, hr, cond_true, a1, kt0]
  rw [pre]
  have sp : ∀ g, g = 41 ∨ g = 42 ∨ g = 43 → SP A (upA A g a d) := fun g hg => ⟨by rw [upA_f (by omega)], by rw [upA_f (by omega)], by rw [upA_f (by omega)], by rw [upA_f (by omega)], by rw [upA_f (by omega)], by rw [upA_f (by omega)], upA_f (by omega), upA_f (by omega), upA_f (by omega), upA_f (by omega), upA_f (by omega), upA_f (by omega), upA_f (by omega), upA_f (by omega), upA_f (by omega), upA_f (by omega), upA_f (by omega)⟩
  have hs := a2.1.2.1
  obtain ⟨-, -, -, -, s41, s42, s43, -⟩ := hs
  obtain ⟨-, -, -, -, l21, l23, l25, -⟩ := stl83
  rcases (by omega : b = 0 ∨ b = 1 ∨ b = 2) with rfl | rfl | rfl
  · exact fin 104 (ii 0) (by omega) (by omega) (by omega) l21 (s41 a hc.1.1 hc.1.2) (ST_41 a2.1.2.1 hc.1.1) (sp 41 (by omega)) (fun z0 z1 => by rw [q246_58, i_0, eqT rfl])
  · exact fin 106 (ii 1) (by omega) (by omega) (by omega) l23 (s42 a hc.1.1 hc.1.2) (ST_42 a2.1.2.1 hc.1.1) (sp 42 (by omega)) (fun z0 z1 => by rw [q246_58, i_0, eqF (by omega), i_1, eqT rfl])
  · exact fin 108 (ii 2) (by omega) (by omega) (by omega) l25 (s43 a hc.1.1 hc.1.2) (ST_43 a2.1.2.1 hc.1.1) (sp 43 (by omega)) (fun z0 z1 => by rw [q246_58, i_0, eqF (by omega), i_1, eqF (by omega)])
/-- six cells' sum -/
theorem sum6 {t : Nat} {F : Int → Int} (h : ∀ j, 0 ≤ j → j < 6 → cl M t j = ii (F j)) (hl : rl t = 6) : ev true 14 0 0 [pR 8 t, p0, p0, p0, p0, p0] [] M X = some (.inl (some (pI (ii (s6 F)))), M, X) := by
  have e : ln (t + 1) = 6 := by unfold rl at hl; omega
  have c : ∀ i : Nat, i < 6 → M (t + 1) i = ii (F i) := fun i hi => h i (by omega) (by omega)
  have hs : smC (M (t + 1)) (ln (t + 1)) = ii (s6 F) := by
    rw [e]
    show ii 0 + M (t + 1) 0 + M (t + 1) 1 + M (t + 1) 2 + M (t + 1) 3 + M (t + 1) 4 + M (t + 1) 5 = _
    rw [c 0 (by omega), c 1 (by omega), c 2 (by omega), c 3 (by omega), c 4 (by omega), c 5 (by omega), ii_add, ii_add, ii_add, ii_add, ii_add, ii_add]
    unfold s6
    congr 1
    show 0 + F 0 + F 1 + F 2 + F 3 + F 4 + F 5 = _
    omega
  rw [S14, hs]
theorem C_ticks_n (hX : XZ X) (ha : B32 a) (hc : ¬ (1 ≤ a ∧ a ≤ 500)) : ev true 257 0 0 [pR 1 0, pI (ii a), p0] [] M X = some (.inr 2, M, thX X) := by
  obtain ⟨a1, a2⟩ := ha
  rw [q257_0, i_1, i_500, ilt (by omega), ilt (by omega)]
  by_cases c1 : a < 1
  · rw [if_pos c1, q257_12, thT hX (by decide) (by decide)]
  · rw [if_neg c1, if_pos (by omega), q257_12, thT hX (by decide) (by decide)]
theorem C_ticks_y (h : CW M A n Q k I s D f) (hz : ZW T A n Q k I s D f) (hT : T + 500 < 1000000) (hc : 1 ≤ a ∧ a ≤ 500) : ∃ M', ev true 257 0 0 [pR 1 0, pI (ii a), p0] [] M X = some (.inl (some (pI (ii (runA (-1) a.toNat A 0 6 - A 0 6)))), M', X) ∧ CW M' (runA (-1) a.toNat A) (kpN n) (kpQ n Q A) k I s D f ∧ ∀ b, 819 ≤ b → M' b = M b := by
  obtain ⟨M1, a1, a2, a3⟩ := C_keep (X := X) h hz.1.1
  have w1 : WT M1 49 83 A T := ⟨⟨a2.1.1, pll49, a2.1.2.1, stl83, hz.1.1, by omega, by omega⟩, hz.1.2.1, hz.1.2.2.1⟩
  obtain ⟨M2, b1, b2, b3⟩ := S251 (X := X) (n := a.toNat) w1 (by omega) (by omega) a2.1.2.2 (by omega)
  have s34 : ∀ j, 0 ≤ j → j < 6 → cl M1 126 j = ii (A 34 j) := by obtain ⟨-, -, -, -, -, -, -, -, -, -, -, -, -, -, -, h, -⟩ := a2.1.2.1; exact h
  have s34' : ∀ j, 0 ≤ j → j < 6 → cl M2 126 j = ii (runA (-1) a.toNat A 34 j) := by obtain ⟨-, -, -, -, -, -, -, -, -, -, -, -, -, -, -, h, -⟩ := b2.1.2.2.1; exact h
  have l43 : rl 126 = 6 := by obtain ⟨-, -, -, -, -, -, -, -, -, -, -, -, -, -, -, h, -⟩ := stl83; exact h
  have hp := hz.1.run (off := -1) a.toNat
  refine ⟨M2, ?_, a2.mv (CSof b2 (by rw [b3.2]; exact a2.1.2.2)) (fun y c1 c2 c3 c4 => b3.1 y (by omega) c3 c4), fun y hy => by rw [b3.1 y (by omega) (by omega) (by omega), a3 y (by omega)]⟩
  rw [show ((a.toNat : Nat) : Int) = a by omega] at b1
  rw [q257_0, i_1, i_500, ltF (by omega), ltF (by omega), a1, kt0, q257_31, sum6 s34 l43, kt1, q257_41, b1, kt0, q257_54, sum6 s34' l43, kt1, q257_64, ii_sub, ← hz.1.2.2.2.1.1, ← hp.2.2.2.1.1]
theorem C_undo_n (h : CW M A 0 Q k I s D f) : ev true 244 0 0 [pR 1 0] [] M X = some (.inl (some (pI (ii (-1)))), M, X) := by
  rw [q244_0, S236n h.2.1, kb1, q244_11]
theorem C_undo_y (h : CW M A n Q k I s D f) (hz : ZW T A n Q k I s D f) (hn : 0 < n) : ∃ M', ev true 244 0 0 [pR 1 0] [] M X = some (.inl (some (pI (ii ((n : Int) - 1)))), M', X) ∧ CW M' (Q (n - 1)) (n - 1) Q k I s D f ∧ ∀ b, 819 ≤ b → M' b = M b := by
  obtain ⟨h1, h2, h3, h4, h5⟩ := h
  obtain ⟨q1, q2⟩ := hz.2.2.1 (n - 1) (by omega)
  obtain ⟨M', a1, a2, a3, a4⟩ := S236 (X := X) h1 h2 hn q1.1 q2
  exact ⟨M', by rw [q244_0, a1, kb1, q244_11], ⟨a2, a3, CI_k h3 (by rw [a4 0 (by omega) (by omega)]) (fun b c1 c2 => a4 b (by omega) (by omega)), CD0_k h4 (by rw [a4 1 (by omega) (by omega)]) (a4 3 (by omega) (by omega)), by rw [a4 0 (by omega) (by omega)]; exact h5⟩, fun b hb => a4 b (by omega) (by omega)⟩
theorem C_image (h : CW M A n Q k I s D f) (hz : ZW T A n Q k I s D f) : ∃ M', ev true 227 0 0 [pR 1 0] [] M X = some (.inl none, M', X) ∧ CW M' A n Q true A s D f ∧ ∀ b, 819 ≤ b → M' b = M b := by
  obtain ⟨h1, h2, h3, h4, h5⟩ := h
  obtain ⟨M1, a1, a2, a3, a4⟩ := S207v (X := X) h1.1 hz.1.1 hz.1.2.2.1 pll735 pll49 (by omega)
  have hs1 : STv M1 83 A := STv_k h1.2.1 (fun b c1 c2 => a4 b (by omega)) rfl
  obtain ⟨M2, b1, b2, b3, b4⟩ := S209v (X := X) hs1 hz.1.1 stl769 stl83 (by omega)
  have fr : ∀ b, b ≠ 0 → (b < 735 ∨ 819 ≤ b) → upM M2 0 10 (ii 1) b = M b := fun b c1 c2 => by
    funext y
    rw [up_n c1, b4 b (by omega), a4 b (by omega)]
  refine ⟨upM M2 0 10 (ii 1), ?_, ⟨⟨PLv_k h1.1 (fun b c1 c2 _ _ => fr b (by omega) (by omega)) SP.rf, STv_k h1.2.1 (fun b c1 c2 => fr b (by omega) (by omega)) rfl, by rw [fr 83 (by omega) (by omega)]; exact h1.2.2⟩, AC_k h2 (fun b c1 c2 => fr b (by omega) (by omega)), ⟨by rw [up_s, if_pos rfl]; rfl, fun _ => ⟨PLv_k a3 (fun b c1 c2 _ _ => ?_) SP.rf, STv_k b2 (fun b c1 c2 => ?_) rfl, ?_⟩⟩, CD0_k h4 (by rw [fr 1 (by omega) (by omega)]) (fr 3 (by omega) (by omega)), ?_⟩, fun b hb => fr b (by omega) (by omega)⟩
  · rw [q227_0, a1, kb0, q227_11, b1, kb0, q227_22, i_1, rk1]
  · funext y; rw [up_n (by omega), b4 b (by omega)]
  · funext y; rw [up_n (by omega)]
  · rw [up_n (by decide), b3, a4 83 (by omega)]; exact h1.2.2
  · rw [up_d (by decide), b4 0 (by omega), a4 0 (by omega)]; exact h5
theorem C_back_n (h : CW M A n Q false I s D f) : ev true 228 0 0 [pR 1 0] [] M X = some (.inl (some (pI (bI false))), M, X) := by
  have e := h.2.2.1.1
  rw [q228_0, e, i_0, bIT, cond_false, rk0]
  rfl
theorem C_back_y (h : CW M A n Q true I s D f) (hz : ZW T A n Q true I s D f) : ∃ M', ev true 228 0 0 [pR 1 0] [] M X = some (.inl (some (pI (bI true))), M', X) ∧ CW M' I 0 Q true I s D f ∧ ∀ b, 819 ≤ b → M' b = M b := by
  obtain ⟨h1, h2, h3, h4, h5⟩ := h
  obtain ⟨i1, i2, i3⟩ := h3.2 rfl
  have pi := hz.2.2.2.1 rfl
  obtain ⟨M1, a1, a2, a3, a4⟩ := S207v (X := X) i1 pi.1 pi.2.2.1 pll49 pll735 (by omega)
  have hs1 : STv M1 769 I := STv_k i2 (fun b c1 c2 => a4 b (by omega)) rfl
  obtain ⟨M2, b1, b2, b3, b4⟩ := S209v (X := X) hs1 pi.1 stl83 stl769 (by omega)
  have h2' : AC M2 n Q := AC_k h2 (fun b c1 c2 => by rw [b4 b (by omega), a4 b (by omega)])
  obtain ⟨M3, c1, c2, c3⟩ := S9 (X := X) h2'
  have fr : ∀ b, b ≠ 133 → (b < 49 ∨ 133 ≤ b) → M3 b = M b := fun b d1 d2 => by rw [c3 b d1, b4 b (by omega), a4 b (by omega)]
  refine ⟨M3, ?_, ⟨⟨PLv_k a3 (fun b d1 d2 _ _ => by rw [c3 b (by omega), b4 b (by omega)]) SP.rf, STv_k b2 (fun b d1 d2 => c3 b (by omega)) rfl, by rw [c3 83 (by omega), b3, a4 769 (by omega)]; exact i3⟩, c2, CI_k h3 (by rw [fr 0 (by omega) (by omega)]) (fun b d1 d2 => fr b (by omega) (by omega)), CD0_k h4 (by rw [fr 1 (by omega) (by omega)]) (fr 3 (by omega) (by omega)), by rw [fr 0 (by omega) (by omega)]; exact h5⟩, fun b hb => fr b (by omega) (by omega)⟩
  have e := h3.1
  rw [q228_0, e, i_0, bIT, cond_true, a1, kb0, q228_20, b1, kb0, q228_31, c1, kb0, q228_38, i_1, rk1]
  rfl
end CCA
