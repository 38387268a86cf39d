/-! the class: what comes again -/
section FAG
set_option maxRecDepth 100000
variable {u s p v l g n : Nat} {j k q e w c T T' tu tv nx off sh i z y N t x : Int} {A B C A' B' : AT} {M M' M0 : Mem} {X : PX} {f : Nat} {L : Bool}
theorem WT_k (h : WT M p s A T) (h1 : ∀ b, p ≤ b → b < p + 34 → b ≠ p + 27 → b ≠ p + 31 → M' b = M b) (h2 : ∀ b, s ≤ b → b < s + 50 → M' b = M b) : WT M' p s A T := by
  obtain ⟨⟨a1, a2, a3, a4, a5, a6, a7⟩, a8, a9⟩ := h
  exact ⟨⟨PLv_k a1 h1 SP.rf, a2, STv_k a3 h2 rfl, a4, a5, a6, a7⟩, a8, a9⟩
theorem WT_le (h : WT M p s A T) (h1 : T ≤ T') (h2 : T' < 1000000) : WT M p s A T' := by
  obtain ⟨⟨a1, a2, a3, a4, a5, a6, a7⟩, a8, a9⟩ := h
  exact ⟨⟨a1, a2, a3, a4, INV_le a5 h1, h2, a7⟩, a8, a9⟩
/-- a state is copied, as worlds -/
theorem S209w (h : WT M p u A T) (hl : StL s) (hd : s + 50 ≤ u ∨ u + 50 ≤ s) (hp : p + 34 ≤ s ∨ s + 50 ≤ p) : ∃ M', ev true 209 0 0 [pR 6 s, pR 6 u] [] M X = some (.inl none, M', X) ∧ WT M' p s A T ∧ M' s 17 = M u 17 ∧ ∀ b, b < s ∨ s + 50 ≤ b → M' b = M b := by
  obtain ⟨⟨a1, a2, a3, a4, a5, a6, a7⟩, a8, a9⟩ := h
  obtain ⟨M', b1, b2, b3, b4⟩ := S209v (X := X) a3 a5 hl a4 hd
  exact ⟨M', b1, ⟨⟨PLv_k a1 (fun b c1 c2 _ _ => b4 b (by omega)) SP.rf, a2, b2, hl, a5, a6, hp⟩, a8, a9⟩, b3, b4⟩
theorem stl635 : StL 635 := stL_ok (by decide)
theorem stl685 : StL 685 := stL_ok (by decide)
/-- nothing but the two states for trials and the law's scratch is written -/
def FrG (M M' : Mem) : Prop := ∀ b, (b < 635 ∨ 735 ≤ b) → b ≠ 76 → b ≠ 80 → M' b = M b
theorem FrG.rf : FrG M M := fun _ _ _ _ => rfl
theorem FrG.tr {M1 M2 M3 : Mem} (h1 : FrG M1 M2) (h2 : FrG M2 M3) : FrG M1 M3 := fun b a c d => (h2 b a c d).trans (h1 b a c d)
theorem FrG.s6 (h : FrS 49 635 M M') : FrG M M' := fun b a c d => h.1 b (by omega) c d
theorem FrG.s7 (h : FrS 49 685 M M') : FrG M M' := fun b a c d => h.1 b (by omega) c d
theorem FrG.now (h : WT M 49 83 A T) (hf : FrG M M') : WT M' 49 83 A T := WT_k h (fun b a c d e => hf b (by omega) d e) (fun b a c => hf b (by omega) (by omega) (by omega))
theorem S247a : ∀ (m n : Nat) (M : Mem) (z2 : PV), n + m = 500 → T + 500 < 1000000 → WT M 49 635 (runA (-1) n A) (T + n) → M 635 17 = ii (-1) → ∃ M', ev true 247 0 13 [pR 1 0, pI (ii n), z2] [] M X = ev true 247 0 13 [pR 1 0, pI (ii 500), z2] [] M' X ∧ WT M' 49 635 (runA (-1) 500 A) (T + 500) ∧ M' 635 17 = ii (-1) ∧ FrG M M' := by
  intro m
  induction m with
  | zero =>
    intro n M z2 h1 h2 h3 h4
    have hn : n = 500 := by omega
    subst hn
    exact ⟨M, rfl, h3, h4, FrG.rf⟩
  | succ m ih =>
    intro n M z2 h1 h2 h3 h4
    obtain ⟨M1, a1, a2, a3⟩ := S233 (X := X) h3 (by omega) h4 (by omega)
    rw [← run_s, show T + (n : Int) + 1 = T + ((n + 1 : Nat) : Int) by omega] at a2
    obtain ⟨M', b1, b2, b3, b4⟩ := ih (n + 1) M1 z2 (by omega) h2 a2 (by rw [a3.2]; exact h4)
    refine ⟨M', ?_, b2, b3, (FrG.s6 a3).tr b4⟩
    rw [q247_13, i_500, ltT (by omega), a1, kb0, q247_31, i_1, ii_add]
    exact b1
/-- two states of a run, in the places for trials -/
def TW2 (M : Mem) (A : AT) (T : Int) (a b : Nat) : Prop := WT M 49 635 (runA (-1) a A) (T + a) ∧ WT M 49 685 (runA (-1) b A) (T + b) ∧ M 635 17 = ii (-1) ∧ M 685 17 = ii (-1)
theorem tw_later {a b : Nat} (h : TW2 M A T a b) (hT : T + b + 1 < 1000000) : ∃ M', ev true 233 0 0 [pR 6 685, pR 5 49, p0] [] M X = some (.inl none, M', X) ∧ TW2 M' A T a (b + 1) ∧ FrG M M' := by
  obtain ⟨h1, h2, h3, h4⟩ := h
  obtain ⟨M1, a1, a2, a3⟩ := S233 (X := X) h2 hT h4 (by omega)
  rw [← run_s, show T + (b : Int) + 1 = T + ((b + 1 : Nat) : Int) by omega] at a2
  exact ⟨M1, a1, ⟨WT_k h1 (fun b c1 c2 c3 c4 => a3.1 b (by omega) c3 c4) (fun b c1 c2 => a3.1 b (by omega) (by omega) (by omega)), a2, by rw [a3.1 635 (by omega) (by omega) (by omega)]; exact h3, by rw [a3.2]; exact h4⟩, FrG.s7 a3⟩
theorem tw_earlier {a b : Nat} (h : TW2 M A T a b) (hT : T + a + 1 < 1000000) : ∃ M', ev true 233 0 0 [pR 6 635, pR 5 49, p0] [] M X = some (.inl none, M', X) ∧ TW2 M' A T (a + 1) b ∧ FrG M M' := by
  obtain ⟨h1, h2, h3, h4⟩ := h
  obtain ⟨M1, a1, a2, a3⟩ := S233 (X := X) h1 hT h3 (by omega)
  rw [← run_s, show T + (a : Int) + 1 = T + ((a + 1 : Nat) : Int) by omega] at a2
  exact ⟨M1, a1, ⟨a2, WT_k h2 (fun b c1 c2 c3 c4 => a3.1 b (by omega) c3 c4) (fun b c1 c2 => a3.1 b (by omega) (by omega) (by omega)), by rw [a3.2]; exact h3, by rw [a3.1 685 (by omega) (by omega) (by omega)]; exact h4⟩, FrG.s6 a3⟩
/-- the least by which the last moment comes again, or 500 -/
theorem S247b : ∀ (m d : Nat) (M : Mem) (z2 : PV), d + m = 500 → 1 ≤ d → T + 1000 < 1000000 → TW2 M A T 500 (500 + d) → (∀ y : Nat, 1 ≤ y → y < d → ¬ ISE (runA (-1) 500 A) (runA (-1) (500 + y) A)) → ∃ M' d', ev true 247 0 61 [pR 1 0, pI (ii d), z2] [] M X = ev true 247 0 103 [pR 1 0, pI (ii (d' : Nat)), z2] [] M' X ∧ 1 ≤ d' ∧ d' ≤ 500 ∧ (∀ y : Nat, 1 ≤ y → y < d' → ¬ ISE (runA (-1) 500 A) (runA (-1) (500 + y) A)) ∧ (d' < 500 → ISE (runA (-1) 500 A) (runA (-1) (500 + d') A)) ∧ FrG M M' := by
  intro m
  induction m with
  | zero =>
    intro d M z2 h1 h2 h3 h4 h5
    exact ⟨M, d, by rw [q247_61, i_500, ltF (by omega)], h2, by omega, h5, fun z => absurd z (by omega), FrG.rf⟩
  | succ m ih =>
    intro d M z2 h1 h2 h3 h4 h5
    obtain ⟨r, t1, t2⟩ := S213 (X := X) h4.2.1 h4.1 (run_SQ (500 + d) 500).1
    rw [q247_61, i_500, ltT (by omega), t1, kb1, q247_83, i_0, bIT]
    cases r with
    | false =>
      obtain ⟨M1, a1, a2, a3⟩ := tw_later (X := X) h4 (by omega)
      have hn : ¬ ISE (runA (-1) 500 A) (runA (-1) (500 + d) A) := fun z => absurd (t2.mpr (rl_sy A z)) (by decide)
      obtain ⟨M', d', b1, b2, b3, b4, b5, b6⟩ := ih (d + 1) M1 z2 (by omega) (by omega) h3 a2 (fun y y1 y2 => by
        rcases Nat.eq_or_lt_of_le (Nat.le_of_lt_succ y2) with h | h
        · rw [h]; exact hn
        · exact h5 y y1 h)
      refine ⟨M', d', ?_, b2, b3, b4, b5, a3.tr b6⟩
      rw [cond_false, a1, kb0, q247_97, i_1, ii_add]
      exact b1
    | true =>
      exact ⟨M, d, by rw [cond_true], h2, by omega, h5, fun _ => rl_sy A (t2.mp rfl), FrG.rf⟩
theorem S247c {d : Nat} (hd : d ≤ 500) : ∀ (m n : Nat) (M : Mem), n + m = d → T + 1000 < 1000000 → TW2 M A T 0 n → ∃ M', ev true 247 0 127 [pR 1 0, pI (ii d), pI (ii n)] [] M X = ev true 247 0 151 [pR 1 0, pI (ii d), pI (ii 0)] [] M' X ∧ TW2 M' A T 0 d ∧ FrG M M' := by
  intro m
  induction m with
  | zero =>
    intro n M h1 h2 h3
    have hn : n = d := by omega
    subst hn
    exact ⟨M, by rw [q247_127, ltF (by omega), i_0], h3, FrG.rf⟩
  | succ m ih =>
    intro n M h1 h2 h3
    obtain ⟨M1, a1, a2, a3⟩ := tw_later (X := X) h3 (by omega)
    obtain ⟨M', b1, b2, b3⟩ := ih (n + 1) M1 (by omega) h2 a2
    refine ⟨M', ?_, b2, a3.tr b3⟩
    rw [q247_127, ltT (by omega), a1, kb0, q247_143, i_1, ii_add]
    exact b1
theorem S247d {d : Nat} (hd : 1 ≤ d ∧ d ≤ 500) : ∀ (m n : Nat) (M : Mem), n + d + m = 501 → T + 1000 < 1000000 → TW2 M A T n (n + d) → (∀ y : Nat, y < n → ¬ alk A y d) → ∃ M', (ev true 247 0 151 [pR 1 0, pI (ii d), pI (ii n)] [] M X = some (.inl (some (pI (ii (-1)))), M', X) ∧ (∀ y : Nat, y + d ≤ 500 → ¬ alk A y d) ∧ FrG M M') ∨ ∃ a : Nat, ev true 247 0 151 [pR 1 0, pI (ii d), pI (ii n)] [] M X = some (.inl (some (pI (ii d))), M', X) ∧ a + d ≤ 500 ∧ alk A a d ∧ (∀ y : Nat, y < a → ¬ alk A y d) ∧ TW2 M' A T a (a + d) ∧ FrG M M' := by
  intro m
  induction m with
  | zero =>
    intro n M h1 h2 h3 h4
    exact ⟨M, Or.inl ⟨by rw [q247_151, i_500, ii_add, ltT (by omega), ii_m1], fun y y1 => h4 y (by omega), FrG.rf⟩⟩
  | succ m ih =>
    intro n M h1 h2 h3 h4
    obtain ⟨r, t1, t2⟩ := S213 (X := X) h3.1 h3.2.1 (run_SQ n (n + d)).1
    rw [q247_151, i_500, ii_add, ltF (by omega), t1, kb1, q247_175, i_0, bIT]
    cases r with
    | false =>
      obtain ⟨M1, a1, a2, a3⟩ := tw_earlier (X := X) h3 (by omega)
      obtain ⟨M2, b1, b2, b3⟩ := tw_later (X := X) a2 (by omega)
      have hn : ¬ alk A n d := fun z => absurd (t2.mpr z) (by decide)
      rw [show n + d + 1 = n + 1 + d by omega] at b2
      obtain ⟨M', c1⟩ := ih (n + 1) M2 (by omega) h2 b2 (fun y y1 => by
        rcases Nat.eq_or_lt_of_le (Nat.le_of_lt_succ y1) with h | h
        · rw [h]; exact hn
        · exact h4 y h)
      refine ⟨M', ?_⟩
      rw [cond_false, a1, kb0, q247_191, b1, kb0, q247_202, i_1, ii_add]
      rcases c1 with ⟨c1, c2, c3⟩ | ⟨a, c1, c2, c3, c4, c5, c6⟩
      · exact Or.inl ⟨c1, c2, (a3.tr b3).tr c3⟩
      · exact Or.inr ⟨a, c1, c2, c3, c4, c5, (a3.tr b3).tr c6⟩
    | true =>
      exact ⟨M, Or.inr ⟨n, by rw [cond_true], by omega, t2.mp rfl, h4, h3, FrG.rf⟩⟩
theorem S247 (h : WT M 49 83 A T) (ho : M 83 17 = ii (-1)) (hT : T + 1000 < 1000000) : ∃ M' t d, ev true 247 0 0 [pR 1 0, p0, p0] [] M X = some (.inl (some (pI (ii d))), M', X) ∧ AGr A t d ∧ (d ≠ -1 → ∃ a b : Nat, t = a ∧ d = b ∧ a + b ≤ 500 ∧ TW2 M' A T a (a + b)) ∧ FrG M M' := by
  have hi := h.1.2.2.2.2.1
  have hh := h.2.1
  obtain ⟨M1, a1, a2, a3, a4⟩ := S209w (X := X) h stl635 (by omega) (by omega)
  have f1 : FrG M M1 := fun b c _ _ => a4 b (by omega)
  obtain ⟨M2, b1, b2, b3, b4⟩ := S247a (X := X) (A := A) (T := T) 500 0 M1 p0 (by omega) (by omega) (by rw [show T + ((0 : Nat) : Int) = T by omega]; exact a2) (by rw [a3]; exact ho)
  obtain ⟨M3, c1, c2, c3, c4⟩ := S209w (X := X) b2 stl685 (by omega) (by omega)
  have f3 : FrG M2 M3 := fun b c _ _ => c4 b (by omega)
  have t3 : TW2 M3 A T 500 500 := ⟨WT_k b2 (fun b c1 c2 _ _ => c4 b (by omega)) (fun b c1 c2 => c4 b (by omega)), c2, by rw [c4 635 (by omega)]; exact b3, by rw [c3]; exact b3⟩
  obtain ⟨M4, d1, d2, d3⟩ := tw_later (X := X) t3 (by omega)
  obtain ⟨M5, p, e1, e2, e3, e4, e5, e6⟩ := S247b (X := X) 499 1 M4 p0 (by omega) (by omega) hT d2 (fun y y1 y2 => by omega)
  have w5 : WT M5 49 83 A T := FrG.now h ((((f1.tr b4).tr f3).tr d3).tr e6)
  have o5 : M5 83 17 = ii (-1) := by rw [((((f1.tr b4).tr f3).tr d3).tr e6) 83 (by omega) (by omega) (by omega)]; exact ho
  obtain ⟨M6, g1, g2, g3, g4⟩ := S209w (X := X) w5 stl635 (by omega) (by omega)
  have f6 : FrG M5 M6 := fun b c _ _ => g4 b (by omega)
  have w6 := FrG.now w5 f6
  obtain ⟨M7, h1, h2, h3, h4⟩ := S209w (X := X) w6 stl685 (by omega) (by omega)
  have f7 : FrG M6 M7 := fun b c _ _ => h4 b (by omega)
  have o6 : M6 83 17 = ii (-1) := by rw [f6 83 (by omega) (by omega) (by omega)]; exact o5
  have t7 : TW2 M7 A T 0 0 := by
    have e0 : T + ((0 : Nat) : Int) = T := by omega
    refine ⟨?_, ?_, by rw [h4 635 (by omega), g3]; exact o5, by rw [h3]; exact o6⟩
    · rw [e0]; exact WT_k g2 (fun b c1 c2 _ _ => h4 b (by omega)) (fun b c1 c2 => h4 b (by omega))
    · rw [e0]; exact h2
  obtain ⟨M8, i1, i2, i3⟩ := S247c (X := X) e3 p 0 M7 (by omega) hT t7
  rw [show (0 : Nat) = 0 + 0 from rfl] at i1
  obtain ⟨M9, j1⟩ := S247d (X := X) (T := T) (A := A) ⟨e2, e3⟩ (501 - p) 0 M8 (by omega) hT (by rw [Nat.zero_add]; exact i2) (fun y y1 => by omega)
  have fr : FrG M M8 := ((((((f1.tr b4).tr f3).tr d3).tr e6).tr f6).tr f7).tr i3
  obtain ⟨k1, k2⟩ := agr_of A hi hh e2 e3 e4 e5
  have hev : ev true 247 0 0 [pR 1 0, p0, p0] [] M X = ev true 247 0 151 [pR 1 0, pI (ii p), pI (ii 0)] [] M8 X := by
    have b1 : ev true 247 0 13 [pR 1 0, pI (ii 0), p0] [] M1 X = _ := b1
    have e1 : ev true 247 0 61 [pR 1 0, pI (ii 1), p0] [] M4 X = _ := e1
    have i1 : ev true 247 0 127 [pR 1 0, pI (ii p), pI (ii 0)] [] M7 X = _ := i1
    rw [q247_0, a1, kb0, q247_11, i_0, b1, q247_13, i_500, ltF (by omega), c1, kb0, q247_48, d1, kb0, i_1, e1, q247_103, g1, kb0, q247_114, h1, kb0, q247_125, i_0, i1]
  rcases j1 with ⟨j1, j2, j3⟩ | ⟨a, j1, j2, j3, j4, j5, j6⟩
  · refine ⟨M9, -1, -1, by rw [hev]; exact j1, k2 j2, fun z => absurd rfl z, fr.tr j3⟩
  · exact ⟨M9, a, p, by rw [hev]; exact j1, k1 a j2 j3 j4, fun _ => ⟨a, p, rfl, rfl, j2, j5⟩, fr.tr j6⟩
end FAG
