/-! copies of states -/
section CPY
set_option maxRecDepth 100000
variable {u s p l t g n : Nat} {j k q e w c T tu nx v off sh i z y N : Int} {A A' : AT} {M M' : Mem} {X : PX} {f : Nat}
theorem S74c (h1 : rl t = n) (h2 : rl u = n) : ∃ M', ev true 74 0 0 [pR 8 t, pR 8 u] [] M X = some (.inl none, M', X) ∧ (∀ i, i < n → M' (t + 1) i = M (u + 1) i) ∧ ∀ b, b ≠ t + 1 → M' b = M b := by
  unfold rl at h1 h2
  refine ⟨_, S74 (n := n) (by omega) (by omega), fun i hi => ?_, fun b hb => ?_⟩
  · unfold cpM
    rw [if_pos ⟨rfl, by omega, by omega⟩, Nat.sub_zero, Nat.zero_add]
  · funext i
    unfold cpM
    rw [if_neg (fun z => hb z.1)]
theorem S163 (hl : RgL g) (hu : RgL u) (hd : g + 13 ≤ u ∨ u + 13 ≤ g) : ∃ M', ev true 163 0 0 [pR 9 g, pR 9 u] [] M X = some (.inl none, M', X) ∧ (∀ i, i < 40 → M' (g + 1 + 1) i = M (u + 1 + 1) i ∧ M' (g + 3 + 1) i = M (u + 3 + 1) i ∧ M' (g + 5 + 1) i = M (u + 5 + 1) i ∧ M' (g + 7 + 1) i = M (u + 7 + 1) i ∧ M' (g + 9 + 1) i = M (u + 9 + 1) i ∧ M' (g + 11 + 1) i = M (u + 11 + 1) i) ∧ M' g 6 = M u 6 ∧ M' g 7 = M u 7 ∧ (∀ b, b < g ∨ g + 13 ≤ b → M' b = M b) := by
  obtain ⟨l1, l3, l5, l7, l9, l11⟩ := hl
  obtain ⟨u1, u3, u5, u7, u9, u11⟩ := hu
  obtain ⟨M1, a1, c1, f1⟩ := S74c (M := M) (X := X) (t := g + 1) (u := u + 1) (n := 40) l1 u1
  obtain ⟨M3, a3, c3, f3⟩ := S74c (M := M1) (X := X) (t := g + 3) (u := u + 3) (n := 40) l3 u3
  obtain ⟨M5, a5, c5, f5⟩ := S74c (M := M3) (X := X) (t := g + 5) (u := u + 5) (n := 40) l5 u5
  obtain ⟨M7, a7, c7, f7⟩ := S74c (M := M5) (X := X) (t := g + 7) (u := u + 7) (n := 40) l7 u7
  obtain ⟨M9, a9, c9, f9⟩ := S74c (M := M7) (X := X) (t := g + 9) (u := u + 9) (n := 40) l9 u9
  obtain ⟨M11, a11, c11, f11⟩ := S74c (M := M9) (X := X) (t := g + 11) (u := u + 11) (n := 40) l11 u11
  refine ⟨upM (upM M11 g 6 (M11 u 6)) g 7 (M11 u 7), ?_, fun i hi => ?_, ?_, ?_, fun b hb => ?_⟩
  · rw [q163_0, a1, kb0, q163_11, a3, kb0, q163_22, a5, kb0, q163_33, a7, kb0, q163_44, a9, kb0, q163_55, a11, kb0, q163_66, show upM M11 g 6 (M11 u 6) u 7 = M11 u 7 from up_n (by omega)]
  · refine ⟨?_, ?_, ?_, ?_, ?_, ?_⟩
    · rw [up_n (by omega), up_n (by omega)]
      simp (disch := omega) only [f11, f9, f7, f5, f3]
      refine (c1 i hi).trans ?_
      simp (disch := omega) only [f11, f9, f7, f5, f3, f1]
    · rw [up_n (by omega), up_n (by omega)]
      simp (disch := omega) only [f11, f9, f7, f5]
      refine (c3 i hi).trans ?_
      simp (disch := omega) only [f11, f9, f7, f5, f3, f1]
    · rw [up_n (by omega), up_n (by omega)]
      simp (disch := omega) only [f11, f9, f7]
      refine (c5 i hi).trans ?_
      simp (disch := omega) only [f11, f9, f7, f5, f3, f1]
    · rw [up_n (by omega), up_n (by omega)]
      simp (disch := omega) only [f11, f9]
      refine (c7 i hi).trans ?_
      simp (disch := omega) only [f11, f9, f7, f5, f3, f1]
    · rw [up_n (by omega), up_n (by omega)]
      simp (disch := omega) only [f11]
      refine (c9 i hi).trans ?_
      simp (disch := omega) only [f11, f9, f7, f5, f3, f1]
    · rw [up_n (by omega), up_n (by omega)]
      refine (c11 i hi).trans ?_
      simp (disch := omega) only [f11, f9, f7, f5, f3, f1]
  · rw [up_d (by decide), up_s, if_pos rfl]
    simp (disch := omega) only [f11, f9, f7, f5, f3, f1]
  · rw [up_s, if_pos rfl]
    simp (disch := omega) only [f11, f9, f7, f5, f3, f1]
  · funext i
    rw [up_n (by omega), up_n (by omega)]
    simp (disch := omega) only [f11, f9, f7, f5, f3, f1]
theorem S165 (hl : QuL g) (hu : QuL u) (hd : g + 7 ≤ u ∨ u + 7 ≤ g) : ∃ M', ev true 165 0 0 [pR 10 g, pR 10 u] [] M X = some (.inl none, M', X) ∧ (∀ i, i < 120 → M' (g + 1 + 1) i = M (u + 1 + 1) i) ∧ (∀ i, i < 120 → M' (g + 3 + 1) i = M (u + 3 + 1) i) ∧ (∀ i, i < 6 → M' (g + 5 + 1) i = M (u + 5 + 1) i) ∧ (∀ b, b < g ∨ g + 7 ≤ b → M' b = M b) := by
  obtain ⟨l1, l3, l5⟩ := hl
  obtain ⟨u1, u3, u5⟩ := hu
  obtain ⟨M1, a1, c1, f1⟩ := S74c (M := M) (X := X) (t := g + 1) (u := u + 1) (n := 120) l1 u1
  obtain ⟨M3, a3, c3, f3⟩ := S74c (M := M1) (X := X) (t := g + 3) (u := u + 3) (n := 120) l3 u3
  obtain ⟨M5, a5, c5, f5⟩ := S74c (M := M3) (X := X) (t := g + 5) (u := u + 5) (n := 6) l5 u5
  refine ⟨M5, ?_, fun i hi => ?_, fun i hi => ?_, fun i hi => ?_, fun b hb => ?_⟩
  · rw [q165_0, a1, kb0, q165_11, a3, kb0, q165_22, a5, kb0, q165_33]
  · rw [f5 _ (by omega), f3 _ (by omega), c1 i hi]
  · rw [f5 _ (by omega), c3 i hi, f1 _ (by omega)]
  · rw [c5 i hi, f3 _ (by omega), f1 _ (by omega)]
  · rw [f5 _ (by omega), f3 _ (by omega), f1 _ (by omega)]
theorem S168 (hl : rl (g + 1) = 280) (hu : rl (u + 1) = 280) (hd : g + 3 ≤ u ∨ u + 3 ≤ g) : ∃ M', ev true 168 0 0 [pR 11 g, pR 11 u] [] M X = some (.inl none, M', X) ∧ (∀ i, i < 280 → M' (g + 1 + 1) i = M (u + 1 + 1) i) ∧ M' g 1 = M u 1 ∧ M' g 2 = M u 2 ∧ (∀ b, b < g ∨ g + 3 ≤ b → M' b = M b) := by
  obtain ⟨M1, a1, c1, f1⟩ := S74c (M := M) (X := X) (t := g + 1) (u := u + 1) (n := 280) hl hu
  refine ⟨upM (upM M1 g 1 (M1 u 1)) g 2 (M1 u 2), ?_, fun i hi => ?_, ?_, ?_, fun b hb => ?_⟩
  · rw [q168_0, a1, kb0, q168_11, show upM M1 g 1 (M1 u 1) u 2 = M1 u 2 from up_n (by omega)]
  · rw [up_n (by omega), up_n (by omega), c1 i hi]
  · rw [up_d (by decide), up_s, if_pos rfl, f1 _ (by omega)]
  · rw [up_s, if_pos rfl, f1 _ (by omega)]
  · funext i
    rw [up_n (by omega), up_n (by omega), f1 _ (by omega)]
/-- the state at s has what the one at u had -/
def CPS (M M' : Mem) (u s : Nat) : Prop := (∀ i, i < 40 → M' (s + 3) i = M (u + 3) i) ∧ (∀ i, i < 40 → M' (s + 5) i = M (u + 5) i) ∧ (∀ i, i < 40 → M' (s + 7) i = M (u + 7) i) ∧ (∀ i, i < 40 → M' (s + 9) i = M (u + 9) i) ∧ (∀ i, i < 40 → M' (s + 11) i = M (u + 11) i) ∧ (∀ i, i < 40 → M' (s + 13) i = M (u + 13) i) ∧ (∀ i, i < 120 → M' (s + 16) i = M (u + 16) i) ∧ (∀ i, i < 120 → M' (s + 18) i = M (u + 18) i) ∧ (∀ i, i < 6 → M' (s + 20) i = M (u + 20) i) ∧ (∀ i, i < 6 → M' (s + 22) i = M (u + 22) i) ∧ (∀ i, i < 6 → M' (s + 24) i = M (u + 24) i) ∧ (∀ i, i < 6 → M' (s + 26) i = M (u + 26) i) ∧ (∀ i, i < 6 → M' (s + 28) i = M (u + 28) i) ∧ (∀ i, i < 6 → M' (s + 30) i = M (u + 30) i) ∧ (∀ i, i < 6 → M' (s + 32) i = M (u + 32) i) ∧ (∀ i, i < 6 → M' (s + 34) i = M (u + 34) i) ∧ (∀ i, i < 6 → M' (s + 36) i = M (u + 36) i) ∧ (∀ i, i < 6 → M' (s + 38) i = M (u + 38) i) ∧ (∀ i, i < 6 → M' (s + 40) i = M (u + 40) i) ∧ (∀ i, i < 6 → M' (s + 42) i = M (u + 42) i) ∧ (∀ i, i < 6 → M' (s + 44) i = M (u + 44) i) ∧ (∀ i, i < 8 → M' (s + 46) i = M (u + 46) i) ∧ (∀ i, i < 280 → M' (s + 49) i = M (u + 49) i) ∧ M' s 0 = M u 0 ∧ M' s 17 = M u 17 ∧ M' (s + 1) 6 = M (u + 1) 6 ∧ M' (s + 1) 7 = M (u + 1) 7 ∧ M' (s + 47) 1 = M (u + 47) 1 ∧ M' (s + 47) 2 = M (u + 47) 2
theorem S209 (hl : StL s) (hu : StL u) (hd : s + 50 ≤ u ∨ u + 50 ≤ s) : ∃ M', ev true 209 0 0 [pR 6 s, pR 6 u] [] M X = some (.inl none, M', X) ∧ CPS M M' u s ∧ ∀ b, b < s ∨ s + 50 ≤ b → M' b = M b := by
  obtain ⟨lr, l15, l17, l19, l21, l23, l25, l27, l29, l31, l33, l35, l37, l39, l41, l43, l45, l48⟩ := hl
  obtain ⟨ur, u15, u17, u19, u21, u23, u25, u27, u29, u31, u33, u35, u37, u39, u41, u43, u45, u48⟩ := hu
  obtain ⟨M0, e0⟩ : ∃ M0, M0 = upM M s 0 (M u 0) := ⟨_, rfl⟩
  have f0 : ∀ b, b ≠ s → M0 b = M b := fun b hb => by rw [e0]; funext i; exact up_n hb
  obtain ⟨M1, a1, c1, k16, k17, f1⟩ := S163 (M := M0) (X := X) (g := s + 1) (u := u + 1) lr ur (by omega)
  obtain ⟨M2, a2, d1, d3, d5, f2⟩ := S165 (M := M1) (X := X) (g := s + 14) (u := u + 14) ⟨l15, l17, l19⟩ ⟨u15, u17, u19⟩ (by omega)
  obtain ⟨M21, a21, c21, f21⟩ := S74c (M := M2) (X := X) (t := s + 21) (u := u + 21) (n := 6) l21 u21
  obtain ⟨M23, a23, c23, f23⟩ := S74c (M := M21) (X := X) (t := s + 23) (u := u + 23) (n := 6) l23 u23
  obtain ⟨M25, a25, c25, f25⟩ := S74c (M := M23) (X := X) (t := s + 25) (u := u + 25) (n := 6) l25 u25
  obtain ⟨M27, a27, c27, f27⟩ := S74c (M := M25) (X := X) (t := s + 27) (u := u + 27) (n := 6) l27 u27
  obtain ⟨M29, a29, c29, f29⟩ := S74c (M := M27) (X := X) (t := s + 29) (u := u + 29) (n := 6) l29 u29
  obtain ⟨M31, a31, c31, f31⟩ := S74c (M := M29) (X := X) (t := s + 31) (u := u + 31) (n := 6) l31 u31
  obtain ⟨M33, a33, c33, f33⟩ := S74c (M := M31) (X := X) (t := s + 33) (u := u + 33) (n := 6) l33 u33
  obtain ⟨M35, a35, c35, f35⟩ := S74c (M := M33) (X := X) (t := s + 35) (u := u + 35) (n := 6) l35 u35
  obtain ⟨M37, a37, c37, f37⟩ := S74c (M := M35) (X := X) (t := s + 37) (u := u + 37) (n := 6) l37 u37
  obtain ⟨M39, a39, c39, f39⟩ := S74c (M := M37) (X := X) (t := s + 39) (u := u + 39) (n := 6) l39 u39
  obtain ⟨M41, a41, c41, f41⟩ := S74c (M := M39) (X := X) (t := s + 41) (u := u + 41) (n := 6) l41 u41
  obtain ⟨M43, a43, c43, f43⟩ := S74c (M := M41) (X := X) (t := s + 43) (u := u + 43) (n := 6) l43 u43
  obtain ⟨M45, a45, c45, f45⟩ := S74c (M := M43) (X := X) (t := s + 45) (u := u + 45) (n := 8) l45 u45
  obtain ⟨M47, a47, c47, k471, k472, f47⟩ := S168 (M := M45) (X := X) (g := s + 47) (u := u + 47) l48 u48 (by omega)
  obtain ⟨M99, e99⟩ : ∃ M99, M99 = upM M47 s 17 (M47 u 17) := ⟨_, rfl⟩
  have f99 : ∀ b, b ≠ s → M99 b = M47 b := fun b hb => by rw [e99]; funext i; exact up_n hb
  refine ⟨M99, ?_, ⟨fun i hi => ?_, fun i hi => ?_, fun i hi => ?_, fun i hi => ?_, fun i hi => ?_, fun i hi => ?_, fun i hi => ?_, fun i hi => ?_, fun i hi => ?_, fun i hi => ?_, fun i hi => ?_, fun i hi => ?_, fun i hi => ?_, fun i hi => ?_, fun i hi => ?_, fun i hi => ?_, fun i hi => ?_, fun i hi => ?_, fun i hi => ?_, fun i hi => ?_, fun i hi => ?_, fun i hi => ?_, fun i hi => ?_, ?_, ?_, ?_, ?_, ?_, ?_⟩, fun b hb => ?_⟩
  · rw [q209_0, ← e0, a1, kb0, q209_19, a2, kb0, q209_30, a21, kb0, q209_41, a23, kb0, q209_52, a25, kb0, q209_63, a27, kb0, q209_74, a29, kb0, q209_85, a31, kb0, q209_96, a33, kb0, q209_107, a35, kb0, q209_118, a37, kb0, q209_129, a39, kb0, q209_140, a41, kb0, q209_151, a43, kb0, q209_162, a45, kb0, q209_173, a47, kb0, q209_184, e99]
  · simp (disch := omega) only [f99, f47, f45, f43, f41, f39, f37, f35, f33, f31, f29, f27, f25, f23, f21, f2]
    refine Eq.trans ((c1 i hi).1) ?_
    simp (disch := omega) only [f99, f47, f45, f43, f41, f39, f37, f35, f33, f31, f29, f27, f25, f23, f21, f2, f1, f0]
  · simp (disch := omega) only [f99, f47, f45, f43, f41, f39, f37, f35, f33, f31, f29, f27, f25, f23, f21, f2]
    refine Eq.trans ((c1 i hi).2.1) ?_
    simp (disch := omega) only [f99, f47, f45, f43, f41, f39, f37, f35, f33, f31, f29, f27, f25, f23, f21, f2, f1, f0]
  · simp (disch := omega) only [f99, f47, f45, f43, f41, f39, f37, f35, f33, f31, f29, f27, f25, f23, f21, f2]
    refine Eq.trans ((c1 i hi).2.2.1) ?_
    simp (disch := omega) only [f99, f47, f45, f43, f41, f39, f37, f35, f33, f31, f29, f27, f25, f23, f21, f2, f1, f0]
  · simp (disch := omega) only [f99, f47, f45, f43, f41, f39, f37, f35, f33, f31, f29, f27, f25, f23, f21, f2]
    refine Eq.trans ((c1 i hi).2.2.2.1) ?_
    simp (disch := omega) only [f99, f47, f45, f43, f41, f39, f37, f35, f33, f31, f29, f27, f25, f23, f21, f2, f1, f0]
  · simp (disch := omega) only [f99, f47, f45, f43, f41, f39, f37, f35, f33, f31, f29, f27, f25, f23, f21, f2]
    refine Eq.trans ((c1 i hi).2.2.2.2.1) ?_
    simp (disch := omega) only [f99, f47, f45, f43, f41, f39, f37, f35, f33, f31, f29, f27, f25, f23, f21, f2, f1, f0]
  · simp (disch := omega) only [f99, f47, f45, f43, f41, f39, f37, f35, f33, f31, f29, f27, f25, f23, f21, f2]
    refine Eq.trans ((c1 i hi).2.2.2.2.2) ?_
    simp (disch := omega) only [f99, f47, f45, f43, f41, f39, f37, f35, f33, f31, f29, f27, f25, f23, f21, f2, f1, f0]
  · simp (disch := omega) only [f99, f47, f45, f43, f41, f39, f37, f35, f33, f31, f29, f27, f25, f23, f21]
    refine Eq.trans (d1 i hi) ?_
    simp (disch := omega) only [f99, f47, f45, f43, f41, f39, f37, f35, f33, f31, f29, f27, f25, f23, f21, f2, f1, f0]
  · simp (disch := omega) only [f99, f47, f45, f43, f41, f39, f37, f35, f33, f31, f29, f27, f25, f23, f21]
    refine Eq.trans (d3 i hi) ?_
    simp (disch := omega) only [f99, f47, f45, f43, f41, f39, f37, f35, f33, f31, f29, f27, f25, f23, f21, f2, f1, f0]
  · simp (disch := omega) only [f99, f47, f45, f43, f41, f39, f37, f35, f33, f31, f29, f27, f25, f23, f21]
    refine Eq.trans (d5 i hi) ?_
    simp (disch := omega) only [f99, f47, f45, f43, f41, f39, f37, f35, f33, f31, f29, f27, f25, f23, f21, f2, f1, f0]
  · simp (disch := omega) only [f99, f47, f45, f43, f41, f39, f37, f35, f33, f31, f29, f27, f25, f23]
    refine Eq.trans (c21 i hi) ?_
    simp (disch := omega) only [f99, f47, f45, f43, f41, f39, f37, f35, f33, f31, f29, f27, f25, f23, f21, f2, f1, f0]
  · simp (disch := omega) only [f99, f47, f45, f43, f41, f39, f37, f35, f33, f31, f29, f27, f25]
    refine Eq.trans (c23 i hi) ?_
    simp (disch := omega) only [f99, f47, f45, f43, f41, f39, f37, f35, f33, f31, f29, f27, f25, f23, f21, f2, f1, f0]
  · simp (disch := omega) only [f99, f47, f45, f43, f41, f39, f37, f35, f33, f31, f29, f27]
    refine Eq.trans (c25 i hi) ?_
    simp (disch := omega) only [f99, f47, f45, f43, f41, f39, f37, f35, f33, f31, f29, f27, f25, f23, f21, f2, f1, f0]
  · simp (disch := omega) only [f99, f47, f45, f43, f41, f39, f37, f35, f33, f31, f29]
    refine Eq.trans (c27 i hi) ?_
    simp (disch := omega) only [f99, f47, f45, f43, f41, f39, f37, f35, f33, f31, f29, f27, f25, f23, f21, f2, f1, f0]
  · simp (disch := omega) only [f99, f47, f45, f43, f41, f39, f37, f35, f33, f31]
    refine Eq.trans (c29 i hi) ?_
    simp (disch := omega) only [f99, f47, f45, f43, f41, f39, f37, f35, f33, f31, f29, f27, f25, f23, f21, f2, f1, f0]
  · simp (disch := omega) only [f99, f47, f45, f43, f41, f39, f37, f35, f33]
    refine Eq.trans (c31 i hi) ?_
    simp (disch := omega) only [f99, f47, f45, f43, f41, f39, f37, f35, f33, f31, f29, f27, f25, f23, f21, f2, f1, f0]
  · simp (disch := omega) only [f99, f47, f45, f43, f41, f39, f37, f35]
    refine Eq.trans (c33 i hi) ?_
    simp (disch := omega) only [f99, f47, f45, f43, f41, f39, f37, f35, f33, f31, f29, f27, f25, f23, f21, f2, f1, f0]
  · simp (disch := omega) only [f99, f47, f45, f43, f41, f39, f37]
    refine Eq.trans (c35 i hi) ?_
    simp (disch := omega) only [f99, f47, f45, f43, f41, f39, f37, f35, f33, f31, f29, f27, f25, f23, f21, f2, f1, f0]
  · simp (disch := omega) only [f99, f47, f45, f43, f41, f39]
    refine Eq.trans (c37 i hi) ?_
    simp (disch := omega) only [f99, f47, f45, f43, f41, f39, f37, f35, f33, f31, f29, f27, f25, f23, f21, f2, f1, f0]
  · simp (disch := omega) only [f99, f47, f45, f43, f41]
    refine Eq.trans (c39 i hi) ?_
    simp (disch := omega) only [f99, f47, f45, f43, f41, f39, f37, f35, f33, f31, f29, f27, f25, f23, f21, f2, f1, f0]
  · simp (disch := omega) only [f99, f47, f45, f43]
    refine Eq.trans (c41 i hi) ?_
    simp (disch := omega) only [f99, f47, f45, f43, f41, f39, f37, f35, f33, f31, f29, f27, f25, f23, f21, f2, f1, f0]
  · simp (disch := omega) only [f99, f47, f45]
    refine Eq.trans (c43 i hi) ?_
    simp (disch := omega) only [f99, f47, f45, f43, f41, f39, f37, f35, f33, f31, f29, f27, f25, f23, f21, f2, f1, f0]
  · simp (disch := omega) only [f99, f47]
    refine Eq.trans (c45 i hi) ?_
    simp (disch := omega) only [f99, f47, f45, f43, f41, f39, f37, f35, f33, f31, f29, f27, f25, f23, f21, f2, f1, f0]
  · simp (disch := omega) only [f99]
    refine Eq.trans (c47 i hi) ?_
    simp (disch := omega) only [f99, f47, f45, f43, f41, f39, f37, f35, f33, f31, f29, f27, f25, f23, f21, f2, f1, f0]
  · rw [e99, up_d (by decide)]
    simp (disch := omega) only [f47, f45, f43, f41, f39, f37, f35, f33, f31, f29, f27, f25, f23, f21, f2, f1]
    rw [e0, up_s, if_pos rfl]
  · rw [e99, up_s, if_pos rfl]
    simp (disch := omega) only [f47, f45, f43, f41, f39, f37, f35, f33, f31, f29, f27, f25, f23, f21, f2, f1, f0]
  · simp (disch := omega) only [f99, f47, f45, f43, f41, f39, f37, f35, f33, f31, f29, f27, f25, f23, f21, f2]
    refine Eq.trans (k16) ?_
    simp (disch := omega) only [f99, f47, f45, f43, f41, f39, f37, f35, f33, f31, f29, f27, f25, f23, f21, f2, f1, f0]
  · simp (disch := omega) only [f99, f47, f45, f43, f41, f39, f37, f35, f33, f31, f29, f27, f25, f23, f21, f2]
    refine Eq.trans (k17) ?_
    simp (disch := omega) only [f99, f47, f45, f43, f41, f39, f37, f35, f33, f31, f29, f27, f25, f23, f21, f2, f1, f0]
  · simp (disch := omega) only [f99]
    refine Eq.trans (k471) ?_
    simp (disch := omega) only [f99, f47, f45, f43, f41, f39, f37, f35, f33, f31, f29, f27, f25, f23, f21, f2, f1, f0]
  · simp (disch := omega) only [f99]
    refine Eq.trans (k472) ?_
    simp (disch := omega) only [f99, f47, f45, f43, f41, f39, f37, f35, f33, f31, f29, f27, f25, f23, f21, f2, f1, f0]
  · simp (disch := omega) only [f99, f47, f45, f43, f41, f39, f37, f35, f33, f31, f29, f27, f25, f23, f21, f2, f1, f0]
end CPY
