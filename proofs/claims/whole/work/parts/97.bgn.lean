/-! a state begins; the plan and the row that a text has told -/
section BGN
set_option maxRecDepth 100000
variable {z y a c lo hi v N x T : Int} {M M' M0 M1 M2 : Mem} {X : PX} {n m i p t b b' d k ne f e f' e' : Nat} {D : Nat → Int} {P Q : PS} {R R' : Int → Int} {cs cs' : List Int} {A : AT}
theorem S73g (v : Int32) : ∃ M', ev true 73 0 0 [pR 8 t, pI v] [] M X = some (.inl none, M', X) ∧ (∀ b, b ≠ t + 1 → M' b = M b) ∧ ∀ i, i < ln (t + 1) → M' (t + 1) i = v := by
  refine ⟨_, S73, fun b hb => ?_, fun i hi => ?_⟩
  · funext y
    unfold flM
    rw [if_neg (by omega)]
  · unfold flM
    rw [if_pos ⟨rfl, by omega, hi⟩]
theorem lnR (h : rl t = (n : Int)) : ln (t + 1) = n := by unfold rl at h; omega

theorem S162b : ∃ M', ev true 162 0 0 [pR 9 84, pI (ii v)] [] M X = some (.inl none, M', X) ∧ (∀ b, b < 84 ∨ 97 ≤ b → M' b = M b) ∧ M' 84 6 = ii v ∧ M' 84 7 = ii 0 ∧ (∀ i, i < 40 → M' 86 i = ii (-1)) ∧ (∀ i, i < 40 → M' 88 i = ii (-1)) ∧ (∀ i, i < 40 → M' 90 i = ii (-1)) ∧ ∀ i, i < 40 → M' 96 i = ii (-1) := by
  obtain ⟨l1, l2, l3, l4, l5, l6⟩ := stl83.1
  have l1 : ln (85 + 1) = 40 := lnR l1
  have l2 : ln (87 + 1) = 40 := lnR l2
  have l3 : ln (89 + 1) = 40 := lnR l3
  have l6 : ln (95 + 1) = 40 := lnR l6
  obtain ⟨M0, e0⟩ : ∃ M0, M0 = upM (upM M 84 6 (ii v)) 84 7 (ii 0) := ⟨_, rfl⟩
  obtain ⟨M1, a1, b1, c1⟩ := S73g (M := M0) (X := X) (t := 85) (ii (-1))
  obtain ⟨M2, a2, b2, c2⟩ := S73g (M := M1) (X := X) (t := 87) (ii (-1))
  obtain ⟨M3, a3, b3, c3⟩ := S73g (M := M2) (X := X) (t := 89) (ii (-1))
  obtain ⟨M4, a4, b4, c4⟩ := S73g (M := M3) (X := X) (t := 91) (ii 0)
  obtain ⟨M5, a5, b5, c5⟩ := S73g (M := M4) (X := X) (t := 93) (ii 0)
  obtain ⟨M6, a6, b6, c6⟩ := S73g (M := M5) (X := X) (t := 95) (ii (-1))
  refine ⟨M6, ?_, fun b hb => ?_, ?_, ?_, fun i hi => ?_, fun i hi => ?_, fun i hi => ?_, fun i hi => c6 i (by omega)⟩
  · rw [q162_0, i_0, ii_m1, ← e0]
    show (ev true 73 0 0 [pR 8 85, pI (ii (-1))] [] M0 X).bind _ = _
    rw [a1, kb0, q162_18, ii_m1]
    show (ev true 73 0 0 [pR 8 87, pI (ii (-1))] [] M1 X).bind _ = _
    rw [a2, kb0, q162_26, ii_m1]
    show (ev true 73 0 0 [pR 8 89, pI (ii (-1))] [] M2 X).bind _ = _
    rw [a3, kb0, q162_34, i_0]
    show (ev true 73 0 0 [pR 8 91, pI (ii 0)] [] M3 X).bind _ = _
    rw [a4, kb0, q162_42, i_0]
    show (ev true 73 0 0 [pR 8 93, pI (ii 0)] [] M4 X).bind _ = _
    rw [a5, kb0, q162_50, ii_m1]
    show (ev true 73 0 0 [pR 8 95, pI (ii (-1))] [] M5 X).bind _ = _
    rw [a6, kb0, q162_58]
  · rw [b6 b (by omega), b5 b (by omega), b4 b (by omega), b3 b (by omega), b2 b (by omega), b1 b (by omega), e0]
    funext y
    rw [up_n (by omega), up_n (by omega)]
  · rw [b6 84 (by omega), b5 84 (by omega), b4 84 (by omega), b3 84 (by omega), b2 84 (by omega), b1 84 (by omega), e0, up_d (by decide), up_s, if_pos rfl]
  · rw [b6 84 (by omega), b5 84 (by omega), b4 84 (by omega), b3 84 (by omega), b2 84 (by omega), b1 84 (by omega), e0, up_s, if_pos rfl]
  · rw [b6 86 (by omega), b5 86 (by omega), b4 86 (by omega), b3 86 (by omega), b2 86 (by omega)]; exact c1 i (by omega)
  · rw [b6 88 (by omega), b5 88 (by omega), b4 88 (by omega), b3 88 (by omega)]; exact c2 i (by omega)
  · rw [b6 90 (by omega), b5 90 (by omega), b4 90 (by omega)]; exact c3 i (by omega)

theorem S208 (h49 : M 49 0 = ii v) : ∃ M', ev true 208 0 0 [pR 6 83, pR 5 49] [] M X = some (.inl none, M', X) ∧ (∀ b, b < 83 ∨ 133 ≤ b → M' b = M b) ∧ M' 83 0 = ii 0 ∧ M' 83 17 = ii (-1) ∧ M' 84 6 = ii v ∧ M' 84 7 = ii 0 ∧ M' 130 1 = ii 0 ∧ M' 130 2 = ii 0 ∧ (∀ i, i < 40 → M' 86 i = ii (-1) ∧ M' 88 i = ii (-1) ∧ M' 90 i = ii (-1) ∧ M' 96 i = ii (-1)) ∧ (∀ i, i < 6 → M' 103 i = ii 0) ∧ (∀ i, i < 6 → M' 105 i = M 61 i ∧ M' 107 i = M 63 i ∧ M' 109 i = M 65 i) ∧ (∀ q, q ∈ [111, 113, 115, 117, 119, 121, 123, 125, 127] → ∀ i, i < 6 → M' q i = ii 0) ∧ ∀ i, i < 8 → M' 129 i = ii 0 := by
  have hl := stl83
  obtain ⟨-, -, -, l19, l21, l23, l25, l27, l29, l31, l33, l35, l37, l39, l41, l43, l45, l48⟩ := hl
  have hp := pll49
  obtain ⟨-, -, -, -, -, p11, p13, p15, -⟩ := hp
  obtain ⟨N0, e0⟩ : ∃ N0, N0 = upM M 83 0 (ii 0) := ⟨_, rfl⟩
  have f0 : ∀ b, b ≠ 83 → N0 b = M b := fun b hb => by rw [e0]; funext y; exact up_n hb
  obtain ⟨M1, a1, b1, r6, r7, r1, r2, r3, r4⟩ := S162b (M := N0) (X := X) (v := v)
  obtain ⟨M2, a2, b2, c2⟩ := S73g (M := M1) (X := X) (t := 102) (ii 0)
  obtain ⟨M3, a3, c3, b3⟩ := S74c (M := M2) (X := X) (t := 104) (u := 60) (n := 6) l21 p11
  have c3 : ∀ i, i < 6 → M3 105 i = M2 61 i := c3
  obtain ⟨M4, a4, c4, b4⟩ := S74c (M := M3) (X := X) (t := 106) (u := 62) (n := 6) l23 p13
  have c4 : ∀ i, i < 6 → M4 107 i = M3 63 i := c4
  obtain ⟨M5, a5, c5, b5⟩ := S74c (M := M4) (X := X) (t := 108) (u := 64) (n := 6) l25 p15
  have c5 : ∀ i, i < 6 → M5 109 i = M4 65 i := c5
  obtain ⟨M6, a6, b6, c6⟩ := S73g (M := M5) (X := X) (t := 110) (ii 0)
  obtain ⟨M7, a7, b7, c7⟩ := S73g (M := M6) (X := X) (t := 112) (ii 0)
  obtain ⟨M8, a8, b8, c8⟩ := S73g (M := M7) (X := X) (t := 114) (ii 0)
  obtain ⟨M9, a9, b9, c9⟩ := S73g (M := M8) (X := X) (t := 116) (ii 0)
  obtain ⟨M10, a10, b10, c10⟩ := S73g (M := M9) (X := X) (t := 118) (ii 0)
  obtain ⟨M11, a11, b11, c11⟩ := S73g (M := M10) (X := X) (t := 120) (ii 0)
  obtain ⟨M12, a12, b12, c12⟩ := S73g (M := M11) (X := X) (t := 122) (ii 0)
  obtain ⟨M13, a13, b13, c13⟩ := S73g (M := M12) (X := X) (t := 124) (ii 0)
  obtain ⟨M14, a14, b14, c14⟩ := S73g (M := M13) (X := X) (t := 126) (ii 0)
  obtain ⟨M15, a15, b15, c15⟩ := S73g (M := M14) (X := X) (t := 128) (ii 0)
  obtain ⟨N1, e1⟩ : ∃ N1, N1 = upM (upM M15 130 1 (ii 0)) 130 2 (ii 0) := ⟨_, rfl⟩
  have f1 : ∀ b, b ≠ 130 → N1 b = M15 b := fun b hb => by rw [e1]; funext y; rw [up_n hb, up_n hb]
  have f2 : ∀ b, b ≠ 83 → upM N1 83 17 (ii (-1)) b = N1 b := fun b hb => by funext y; exact up_n hb
  have g15 : ∀ b, b ≠ 83 → b ≠ 130 → upM N1 83 17 (ii (-1)) b = M15 b := fun b h1 h2 => (f2 b h1).trans (f1 b h2)
  have g14 : ∀ b, b ≠ 83 → b ≠ 130 → b ≠ 129 → upM N1 83 17 (ii (-1)) b = M14 b := fun b h1 h2 k15 => (g15 b h1 h2).trans (b15 b k15)
  have g13 : ∀ b, b ≠ 83 → b ≠ 130 → b ≠ 127 → b ≠ 129 → upM N1 83 17 (ii (-1)) b = M13 b := fun b h1 h2 k14 k15 => (g14 b h1 h2 k15).trans (b14 b k14)
  have g12 : ∀ b, b ≠ 83 → b ≠ 130 → b ≠ 125 → b ≠ 127 → b ≠ 129 → upM N1 83 17 (ii (-1)) b = M12 b := fun b h1 h2 k13 k14 k15 => (g13 b h1 h2 k14 k15).trans (b13 b k13)
  have g11 : ∀ b, b ≠ 83 → b ≠ 130 → b ≠ 123 → b ≠ 125 → b ≠ 127 → b ≠ 129 → upM N1 83 17 (ii (-1)) b = M11 b := fun b h1 h2 k12 k13 k14 k15 => (g12 b h1 h2 k13 k14 k15).trans (b12 b k12)
  have g10 : ∀ b, b ≠ 83 → b ≠ 130 → b ≠ 121 → b ≠ 123 → b ≠ 125 → b ≠ 127 → b ≠ 129 → upM N1 83 17 (ii (-1)) b = M10 b := fun b h1 h2 k11 k12 k13 k14 k15 => (g11 b h1 h2 k12 k13 k14 k15).trans (b11 b k11)
  have g9 : ∀ b, b ≠ 83 → b ≠ 130 → b ≠ 119 → b ≠ 121 → b ≠ 123 → b ≠ 125 → b ≠ 127 → b ≠ 129 → upM N1 83 17 (ii (-1)) b = M9 b := fun b h1 h2 k10 k11 k12 k13 k14 k15 => (g10 b h1 h2 k11 k12 k13 k14 k15).trans (b10 b k10)
  have g8 : ∀ b, b ≠ 83 → b ≠ 130 → b ≠ 117 → b ≠ 119 → b ≠ 121 → b ≠ 123 → b ≠ 125 → b ≠ 127 → b ≠ 129 → upM N1 83 17 (ii (-1)) b = M8 b := fun b h1 h2 k9 k10 k11 k12 k13 k14 k15 => (g9 b h1 h2 k10 k11 k12 k13 k14 k15).trans (b9 b k9)
  have g7 : ∀ b, b ≠ 83 → b ≠ 130 → b ≠ 115 → b ≠ 117 → b ≠ 119 → b ≠ 121 → b ≠ 123 → b ≠ 125 → b ≠ 127 → b ≠ 129 → upM N1 83 17 (ii (-1)) b = M7 b := fun b h1 h2 k8 k9 k10 k11 k12 k13 k14 k15 => (g8 b h1 h2 k9 k10 k11 k12 k13 k14 k15).trans (b8 b k8)
  have g6 : ∀ b, b ≠ 83 → b ≠ 130 → b ≠ 113 → b ≠ 115 → b ≠ 117 → b ≠ 119 → b ≠ 121 → b ≠ 123 → b ≠ 125 → b ≠ 127 → b ≠ 129 → upM N1 83 17 (ii (-1)) b = M6 b := fun b h1 h2 k7 k8 k9 k10 k11 k12 k13 k14 k15 => (g7 b h1 h2 k8 k9 k10 k11 k12 k13 k14 k15).trans (b7 b k7)
  have g5 : ∀ b, b ≠ 83 → b ≠ 130 → b ≠ 111 → b ≠ 113 → b ≠ 115 → b ≠ 117 → b ≠ 119 → b ≠ 121 → b ≠ 123 → b ≠ 125 → b ≠ 127 → b ≠ 129 → upM N1 83 17 (ii (-1)) b = M5 b := fun b h1 h2 k6 k7 k8 k9 k10 k11 k12 k13 k14 k15 => (g6 b h1 h2 k7 k8 k9 k10 k11 k12 k13 k14 k15).trans (b6 b k6)
  have g4 : ∀ b, b ≠ 83 → b ≠ 130 → b ≠ 109 → b ≠ 111 → b ≠ 113 → b ≠ 115 → b ≠ 117 → b ≠ 119 → b ≠ 121 → b ≠ 123 → b ≠ 125 → b ≠ 127 → b ≠ 129 → upM N1 83 17 (ii (-1)) b = M4 b := fun b h1 h2 k5 k6 k7 k8 k9 k10 k11 k12 k13 k14 k15 => (g5 b h1 h2 k6 k7 k8 k9 k10 k11 k12 k13 k14 k15).trans (b5 b k5)
  have g3 : ∀ b, b ≠ 83 → b ≠ 130 → b ≠ 107 → b ≠ 109 → b ≠ 111 → b ≠ 113 → b ≠ 115 → b ≠ 117 → b ≠ 119 → b ≠ 121 → b ≠ 123 → b ≠ 125 → b ≠ 127 → b ≠ 129 → upM N1 83 17 (ii (-1)) b = M3 b := fun b h1 h2 k4 k5 k6 k7 k8 k9 k10 k11 k12 k13 k14 k15 => (g4 b h1 h2 k5 k6 k7 k8 k9 k10 k11 k12 k13 k14 k15).trans (b4 b k4)
  have g2 : ∀ b, b ≠ 83 → b ≠ 130 → b ≠ 105 → b ≠ 107 → b ≠ 109 → b ≠ 111 → b ≠ 113 → b ≠ 115 → b ≠ 117 → b ≠ 119 → b ≠ 121 → b ≠ 123 → b ≠ 125 → b ≠ 127 → b ≠ 129 → upM N1 83 17 (ii (-1)) b = M2 b := fun b h1 h2 k3 k4 k5 k6 k7 k8 k9 k10 k11 k12 k13 k14 k15 => (g3 b h1 h2 k4 k5 k6 k7 k8 k9 k10 k11 k12 k13 k14 k15).trans (b3 b k3)
  have g1 : ∀ b, b ≠ 83 → b ≠ 130 → b ≠ 103 → b ≠ 105 → b ≠ 107 → b ≠ 109 → b ≠ 111 → b ≠ 113 → b ≠ 115 → b ≠ 117 → b ≠ 119 → b ≠ 121 → b ≠ 123 → b ≠ 125 → b ≠ 127 → b ≠ 129 → upM N1 83 17 (ii (-1)) b = M1 b := fun b h1 h2 k2 k3 k4 k5 k6 k7 k8 k9 k10 k11 k12 k13 k14 k15 => (g2 b h1 h2 k3 k4 k5 k6 k7 k8 k9 k10 k11 k12 k13 k14 k15).trans (b2 b k2)
  refine ⟨upM N1 83 17 (ii (-1)), ?_, fun b hb => ?_, ?_, ?_, ?_, ?_, ?_, ?_, fun i hi => ⟨?_, ?_, ?_, ?_⟩, fun i hi => ?_, fun i hi => ⟨?_, ?_, ?_⟩, fun q hq i hi => ?_, fun i hi => ?_⟩
  · rw [q208_0, i_0, up_n (show (49 : Nat) ≠ 83 by decide), h49, ← e0]
    show (ev true 162 0 0 [pR 9 84, pI (ii v)] [] N0 X).bind _ = _
    rw [a1, kb0, q208_16]
    show (ev true 164 0 0 [pR 10 97] [] M1 X).bind _ = _
    rw [q164_0, i_0]
    show ((ev true 73 0 0 [pR 8 102, pI (ii 0)] [] M1 X).bind _).bind _ = _
    rw [a2, kb0, q164_8, kb0, q208_23]
    show (ev true 74 0 0 [pR 8 104, pR 8 60] [] M2 X).bind _ = _
    rw [a3, kb0, q208_34]
    show (ev true 74 0 0 [pR 8 106, pR 8 62] [] M3 X).bind _ = _
    rw [a4, kb0, q208_45]
    show (ev true 74 0 0 [pR 8 108, pR 8 64] [] M4 X).bind _ = _
    rw [a5, kb0, q208_56, i_0]
    show (ev true 73 0 0 [pR 8 110, pI (ii 0)] [] M5 X).bind _ = _
    rw [a6, kb0, q208_64, i_0]
    show (ev true 73 0 0 [pR 8 112, pI (ii 0)] [] M6 X).bind _ = _
    rw [a7, kb0, q208_72, i_0]
    show (ev true 73 0 0 [pR 8 114, pI (ii 0)] [] M7 X).bind _ = _
    rw [a8, kb0, q208_80, i_0]
    show (ev true 73 0 0 [pR 8 116, pI (ii 0)] [] M8 X).bind _ = _
    rw [a9, kb0, q208_88, i_0]
    show (ev true 73 0 0 [pR 8 118, pI (ii 0)] [] M9 X).bind _ = _
    rw [a10, kb0, q208_96, i_0]
    show (ev true 73 0 0 [pR 8 120, pI (ii 0)] [] M10 X).bind _ = _
    rw [a11, kb0, q208_104, i_0]
    show (ev true 73 0 0 [pR 8 122, pI (ii 0)] [] M11 X).bind _ = _
    rw [a12, kb0, q208_112, i_0]
    show (ev true 73 0 0 [pR 8 124, pI (ii 0)] [] M12 X).bind _ = _
    rw [a13, kb0, q208_120, i_0]
    show (ev true 73 0 0 [pR 8 126, pI (ii 0)] [] M13 X).bind _ = _
    rw [a14, kb0, q208_128, i_0]
    show (ev true 73 0 0 [pR 8 128, pI (ii 0)] [] M14 X).bind _ = _
    rw [a15, kb0, q208_136]
    show (ev true 17 0 0 [pR 11 130] [] M15 X).bind _ = _
    rw [q17_0, i_0, ← e1, kb0, q208_143, ii_m1]
  · rw [g1 b (by omega) (by omega) (by omega) (by omega) (by omega) (by omega) (by omega) (by omega) (by omega) (by omega) (by omega) (by omega) (by omega) (by omega) (by omega) (by omega), b1 b (by omega), f0 b (by omega)]
  · rw [up_d (show (0 : Nat) ≠ 17 by decide), f1 83 (by decide), b15 83 (by decide), b14 83 (by decide), b13 83 (by decide), b12 83 (by decide), b11 83 (by decide), b10 83 (by decide), b9 83 (by decide), b8 83 (by decide), b7 83 (by decide), b6 83 (by decide), b5 83 (by decide), b4 83 (by decide), b3 83 (by decide), b2 83 (by decide), b1 83 (by omega), e0, up_s, if_pos rfl]
  · rw [up_s, if_pos rfl]
  · rw [g1 84 (by decide) (by decide) (by decide) (by decide) (by decide) (by decide) (by decide) (by decide) (by decide) (by decide) (by decide) (by decide) (by decide) (by decide) (by decide) (by decide), r6]
  · rw [g1 84 (by decide) (by decide) (by decide) (by decide) (by decide) (by decide) (by decide) (by decide) (by decide) (by decide) (by decide) (by decide) (by decide) (by decide) (by decide) (by decide), r7]
  · rw [f2 130 (by decide), e1, up_d (by decide), up_s, if_pos rfl]
  · rw [f2 130 (by decide), e1, up_s, if_pos rfl]
  · rw [g1 86 (by decide) (by decide) (by decide) (by decide) (by decide) (by decide) (by decide) (by decide) (by decide) (by decide) (by decide) (by decide) (by decide) (by decide) (by decide) (by decide)]; exact r1 i hi
  · rw [g1 88 (by decide) (by decide) (by decide) (by decide) (by decide) (by decide) (by decide) (by decide) (by decide) (by decide) (by decide) (by decide) (by decide) (by decide) (by decide) (by decide)]; exact r2 i hi
  · rw [g1 90 (by decide) (by decide) (by decide) (by decide) (by decide) (by decide) (by decide) (by decide) (by decide) (by decide) (by decide) (by decide) (by decide) (by decide) (by decide) (by decide)]; exact r3 i hi
  · rw [g1 96 (by decide) (by decide) (by decide) (by decide) (by decide) (by decide) (by decide) (by decide) (by decide) (by decide) (by decide) (by decide) (by decide) (by decide) (by decide) (by decide)]; exact r4 i hi
  · rw [g2 103 (by decide) (by decide) (by decide) (by decide) (by decide) (by decide) (by decide) (by decide) (by decide) (by decide) (by decide) (by decide) (by decide) (by decide) (by decide)]; exact c2 i (by have h9 : ln (102 + 1) = 6 := lnR l19; omega)
  · rw [g3 105 (by decide) (by decide) (by decide) (by decide) (by decide) (by decide) (by decide) (by decide) (by decide) (by decide) (by decide) (by decide) (by decide) (by decide), c3 i hi, b2 61 (by decide), b1 61 (by omega), f0 61 (by decide)]
  · rw [g4 107 (by decide) (by decide) (by decide) (by decide) (by decide) (by decide) (by decide) (by decide) (by decide) (by decide) (by decide) (by decide) (by decide), c4 i hi, b3 63 (by decide), b2 63 (by decide), b1 63 (by omega), f0 63 (by decide)]
  · rw [g5 109 (by decide) (by decide) (by decide) (by decide) (by decide) (by decide) (by decide) (by decide) (by decide) (by decide) (by decide) (by decide), c5 i hi, b4 65 (by decide), b3 65 (by decide), b2 65 (by decide), b1 65 (by omega), f0 65 (by decide)]
  · simp only [List.mem_cons, List.not_mem_nil, or_false] at hq
    rcases hq with rfl | rfl | rfl | rfl | rfl | rfl | rfl | rfl | rfl
    · rw [g6 111 (by decide) (by decide) (by decide) (by decide) (by decide) (by decide) (by decide) (by decide) (by decide) (by decide) (by decide)]; exact c6 i (by have h9 : ln (110 + 1) = 6 := lnR l27; omega)
    · rw [g7 113 (by decide) (by decide) (by decide) (by decide) (by decide) (by decide) (by decide) (by decide) (by decide) (by decide)]; exact c7 i (by have h9 : ln (112 + 1) = 6 := lnR l29; omega)
    · rw [g8 115 (by decide) (by decide) (by decide) (by decide) (by decide) (by decide) (by decide) (by decide) (by decide)]; exact c8 i (by have h9 : ln (114 + 1) = 6 := lnR l31; omega)
    · rw [g9 117 (by decide) (by decide) (by decide) (by decide) (by decide) (by decide) (by decide) (by decide)]; exact c9 i (by have h9 : ln (116 + 1) = 6 := lnR l33; omega)
    · rw [g10 119 (by decide) (by decide) (by decide) (by decide) (by decide) (by decide) (by decide)]; exact c10 i (by have h9 : ln (118 + 1) = 6 := lnR l35; omega)
    · rw [g11 121 (by decide) (by decide) (by decide) (by decide) (by decide) (by decide)]; exact c11 i (by have h9 : ln (120 + 1) = 6 := lnR l37; omega)
    · rw [g12 123 (by decide) (by decide) (by decide) (by decide) (by decide)]; exact c12 i (by have h9 : ln (122 + 1) = 6 := lnR l39; omega)
    · rw [g13 125 (by decide) (by decide) (by decide) (by decide)]; exact c13 i (by have h9 : ln (124 + 1) = 6 := lnR l41; omega)
    · rw [g14 127 (by decide) (by decide) (by decide)]; exact c14 i (by have h9 : ln (126 + 1) = 6 := lnR l43; omega)
  · rw [g15 129 (by decide) (by decide)]; exact c15 i (by have h9 : ln (128 + 1) = 8 := lnR l45; omega)
end BGN
