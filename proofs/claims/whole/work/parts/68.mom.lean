/-! the reference's moments -/
section MOM
set_option maxRecDepth 100000
variable {u s p v l g n : Nat} {j k q e w c T T' tu tv nx off sh i z y N t : Int} {A B A' : AT} {M M' M0 : Mem} {X : PX} {f : Nat} {L : Bool}
def plN (A : AT) (f : Nat) (p : Int) : Int := if p < A 0 0 then A f p else -1
def mwA (A : AT) (s k : Int) : Int := if k < A 44 s then A 60 (20 * s + k) else -1
def maA (A : AT) (L : Bool) (s k : Int) : Int := if k < A 44 s ∧ L = true then A 0 5 - A 61 (20 * s + k) else -1
def mxA (A : AT) (e : Int) : Int := if e < A 0 1 then A 32 e else 0
def myA (A : AT) (e : Int) : Int := if e < A 0 1 then mayA A e else 0
def mdA (A : AT) (c : Int) : Int := if c < A 0 4 then dueA A c else 0
/-- what is written k-th of a moment -/
def moA (A : AT) (L : Bool) (i : Int) : Int :=
  if i < 120 then (if i % 3 = 0 then plN A 20 (i / 3) else if i % 3 = 1 then plN A 21 (i / 3) else plN A 25 (i / 3))
  else if i < 372 then (if (i - 120) % 42 = 0 then A 44 ((i - 120) / 42) else if (i - 120) % 42 = 1 then A 45 ((i - 120) / 42) else if (i - 120) % 42 % 2 = 0 then mwA A ((i - 120) / 42) (((i - 120) % 42 - 2) / 2) else maA A L ((i - 120) / 42) (((i - 120) % 42 - 2) / 2))
  else if i < 384 then (if i % 2 = 0 then mxA A ((i - 372) / 2) else myA A ((i - 372) / 2))
  else mdA A (i - 384)
theorem mo_0 (h1 : 0 ≤ q) (h2 : q < 40) : moA A L (3 * q) = plN A 20 q := by
  unfold moA
  rw [if_pos (show 3 * q < 120 by omega), if_pos (show 3 * q % 3 = 0 by omega), show 3 * q / 3 = q by omega]
theorem mo_1 (h1 : 0 ≤ q) (h2 : q < 40) : moA A L (3 * q + 1) = plN A 21 q := by
  unfold moA
  rw [if_pos (show 3 * q + 1 < 120 by omega), if_neg (show ¬ (3 * q + 1) % 3 = 0 by omega), if_pos (show (3 * q + 1) % 3 = 1 by omega), show (3 * q + 1) / 3 = q by omega]
theorem mo_2 (h1 : 0 ≤ q) (h2 : q < 40) : moA A L (3 * q + 1 + 1) = plN A 25 q := by
  unfold moA
  rw [if_pos (show 3 * q + 1 + 1 < 120 by omega), if_neg (show ¬ (3 * q + 1 + 1) % 3 = 0 by omega), if_neg (show ¬ (3 * q + 1 + 1) % 3 = 1 by omega), show (3 * q + 1 + 1) / 3 = q by omega]
theorem mo_s (h1 : 0 ≤ j) (h2 : j < 6) : moA A L (120 + 42 * j) = A 44 j := by
  unfold moA
  rw [if_neg (show ¬ 120 + 42 * j < 120 by omega), if_pos (show 120 + 42 * j < 372 by omega), if_pos (show (120 + 42 * j - 120) % 42 = 0 by omega), show (120 + 42 * j - 120) / 42 = j by omega]
theorem mo_c (h1 : 0 ≤ j) (h2 : j < 6) : moA A L (120 + 42 * j + 1) = A 45 j := by
  unfold moA
  rw [if_neg (show ¬ 120 + 42 * j + 1 < 120 by omega), if_pos (show 120 + 42 * j + 1 < 372 by omega), if_neg (show ¬ (120 + 42 * j + 1 - 120) % 42 = 0 by omega), if_pos (show (120 + 42 * j + 1 - 120) % 42 = 1 by omega), show (120 + 42 * j + 1 - 120) / 42 = j by omega]
theorem mo_w (h1 : 0 ≤ j) (h2 : j < 6) (h3 : 0 ≤ k) (h4 : k < 20) : moA A L (120 + 42 * j + 2 + 2 * k) = mwA A j k := by
  have e1 : (120 + 42 * j + 2 + 2 * k - 120) % 42 = 2 + 2 * k := by omega
  have e2 : (120 + 42 * j + 2 + 2 * k - 120) / 42 = j := by omega
  unfold moA
  rw [if_neg (show ¬ 120 + 42 * j + 2 + 2 * k < 120 by omega), if_pos (show 120 + 42 * j + 2 + 2 * k < 372 by omega), e1, e2, if_neg (show ¬ 2 + 2 * k = 0 by omega), if_neg (show ¬ 2 + 2 * k = 1 by omega), if_pos (show (2 + 2 * k) % 2 = 0 by omega), show (2 + 2 * k - 2) / 2 = k by omega]
theorem mo_a (h1 : 0 ≤ j) (h2 : j < 6) (h3 : 0 ≤ k) (h4 : k < 20) : moA A L (120 + 42 * j + 2 + 2 * k + 1) = maA A L j k := by
  have e1 : (120 + 42 * j + 2 + 2 * k + 1 - 120) % 42 = 3 + 2 * k := by omega
  have e2 : (120 + 42 * j + 2 + 2 * k + 1 - 120) / 42 = j := by omega
  unfold moA
  rw [if_neg (show ¬ 120 + 42 * j + 2 + 2 * k + 1 < 120 by omega), if_pos (show 120 + 42 * j + 2 + 2 * k + 1 < 372 by omega), e1, e2, if_neg (show ¬ 3 + 2 * k = 0 by omega), if_neg (show ¬ 3 + 2 * k = 1 by omega), if_neg (show ¬ (3 + 2 * k) % 2 = 0 by omega), show (3 + 2 * k - 2) / 2 = k by omega]
theorem mo_x (h1 : 0 ≤ e) (h2 : e < 6) : moA A L (372 + 2 * e) = mxA A e := by
  unfold moA
  rw [if_neg (show ¬ 372 + 2 * e < 120 by omega), if_neg (show ¬ 372 + 2 * e < 372 by omega), if_pos (show 372 + 2 * e < 384 by omega), if_pos (show (372 + 2 * e) % 2 = 0 by omega), show (372 + 2 * e - 372) / 2 = e by omega]
theorem mo_y (h1 : 0 ≤ e) (h2 : e < 6) : moA A L (372 + 2 * e + 1) = myA A e := by
  unfold moA
  rw [if_neg (show ¬ 372 + 2 * e + 1 < 120 by omega), if_neg (show ¬ 372 + 2 * e + 1 < 372 by omega), if_pos (show 372 + 2 * e + 1 < 384 by omega), if_neg (show ¬ (372 + 2 * e + 1) % 2 = 0 by omega), show (372 + 2 * e + 1 - 372) / 2 = e by omega]
theorem mo_d (h1 : 0 ≤ c) (h2 : c < 12) : moA A L (384 + c) = mdA A c := by
  unfold moA
  rw [if_neg (show ¬ 384 + c < 120 by omega), if_neg (show ¬ 384 + c < 372 by omega), if_neg (show ¬ 384 + c < 384 by omega), show 384 + c - 384 = c by omega]
theorem ln826 : ln 826 = 198396 := by decide +kernel
/-- the moment t is written up to i -/
def Wd (M0 : Mem) (A : AT) (L : Bool) (t i : Int) (M : Mem) : Prop := M 819 13 = ii (396 * t + i) ∧ (∀ b, b ≠ 819 → b ≠ 826 → M b = M0 b) ∧ (∀ k, k ≠ 13 → M 819 k = M0 819 k) ∧ (∀ z : Int, 0 ≤ z → z < 396 * t → M 826 z.toNat = M0 826 z.toNat) ∧ ∀ z : Int, 0 ≤ z → z < i → M 826 (396 * t + z).toNat = ii (moA A L z)
theorem S40w {x : Int32} (h : Wd M0 A L t i M) (ht : 0 ≤ t ∧ t ≤ 500) (hi : 0 ≤ i ∧ i < 396) (hx : x = ii (moA A L i)) : ∃ M', ev true 40 0 0 [pR 13 819, pI x] [] M X = some (.inl none, M', X) ∧ Wd M0 A L t (i + 1) M' := by
  obtain ⟨h1, h2, h3, h4, h5⟩ := h
  refine ⟨_, by rw [q40_0, h1, inbT (by rw [ln826]; omega)], ?_, fun b b1 b2 => ?_, fun k k1 => ?_, fun z z1 z2 => ?_, fun z z1 z2 => ?_⟩
  · rw [up_s, if_pos rfl, up_n (by decide), h1, i_1, ii_add, Int.add_assoc]
  · funext y
    rw [up_n b1, up_n b2]
    exact congrFun (h2 b b1 b2) y
  · rw [up_d k1, up_n (by decide)]
    exact h3 k k1
  · rw [up_n (by decide), ii_nat (by omega) (by omega), up_d (by omega)]
    exact h4 z z1 z2
  · rw [up_n (by decide), ii_nat (by omega) (by omega), up_s]
    by_cases hz : z = i
    · rw [if_pos (by rw [hz]), hx, hz]
    · rw [if_neg (by omega)]
      exact h5 z z1 (by omega)
theorem Wd.rr (h : Wd M0 A L t i M) (hw : WR M0 A T) : WR M A T := WR_k hw (h.2.1 820 (by decide) (by decide))
theorem plv (hw : WR M A T) (h1 : 0 ≤ q) (h2 : q < 40) : rr M (174 + 6 * q + 0) = ii (plN A 20 q) ∧ rr M (174 + 6 * q + 1) = ii (plN A 21 q) ∧ rr M (174 + 6 * q + 5) = ii (plN A 25 q) := by
  unfold plN
  by_cases c : q < A 0 0
  · obtain ⟨p0, p1, p2, p34, p5⟩ := hw.1.2.2.2.2.2.1 q h1 c
    rw [if_pos c, if_pos c, if_pos c]
    exact ⟨p0, p1, p5⟩
  · have hb := hw.1.2.2.2.2.2.2.1 q
    rw [if_neg c, if_neg c, if_neg c]
    exact ⟨hb 0 h1 (by omega) h2 (by omega) (by omega), hb 1 h1 (by omega) h2 (by omega) (by omega), hb 5 h1 (by omega) h2 (by omega) (by omega)⟩
theorem S189p (hw : WR M0 A T) (ht : 0 ≤ t ∧ t ≤ 500) {z1 z4 z5 : PV} : ∀ (m : Nat) (q : Int) (M : Mem), q + m = 40 → 0 ≤ q → Wd M0 A L t (3 * q) M → ∃ M', ev true 189 0 11 [pR 13 819, z1, pI (bI L), pI (ii q), z4, z5] [] M X = ev true 189 0 55 [pR 13 819, z1, pI (bI L), pI (ii 0), z4, z5] [] M' X ∧ Wd M0 A L t 120 M' := by
  intro m
  induction m with
  | zero =>
    intro q M h1 h2 h
    refine ⟨M, by rw [q189_11, i_40, ltF (by omega), i_0], ?_⟩
    rw [show (120 : Int) = 3 * q by omega]; exact h
  | succ m ih =>
    intro q M h1 h2 h
    obtain ⟨M1, a1, a2⟩ := S40w (X := X) h ht (by omega) (congrArg ii (mo_0 (A := A) (L := L) h2 (by omega)).symm)
    obtain ⟨M2, b1, b2⟩ := S40w (X := X) a2 ht (by omega) (congrArg ii (mo_1 (A := A) (L := L) h2 (by omega)).symm)
    obtain ⟨M3, c1, c2⟩ := S40w (X := X) b2 ht (by omega) (congrArg ii (mo_2 (A := A) (L := L) h2 (by omega)).symm)
    obtain ⟨M', d1, d2⟩ := ih (q + 1) M3 (by omega) (by omega) (by rw [show 3 * (q + 1) = 3 * q + 1 + 1 + 1 by omega]; exact c2)
    refine ⟨M', ?_, d2⟩
    rw [q189_11, i_40, ltT (by omega), i_0, S24 (by omega), kb1, q189_24, (plv (h.rr hw) h2 (by omega)).1, a1, kb0, q189_27, i_1, S24 (by omega), kb1, q189_34, (plv (a2.rr hw) h2 (by omega)).2.1, b1, kb0, q189_37, i_5, S24 (by omega), kb1, q189_44, (plv (b2.rr hw) h2 (by omega)).2.2, c1, kb0, q189_47, i_1, ii_add, d1]
theorem S189k (hw : WR M0 A T) (ht : 0 ≤ t ∧ t ≤ 500) (h1 : 0 ≤ j) (h2 : j < 6) {z1 : PV} : ∀ (m : Nat) (k : Int) (M : Mem), k + m = 20 → 0 ≤ k → Wd M0 A L t (120 + 42 * j + 2 + 2 * k) M → ∃ M' z4 z5, ev true 189 0 88 [pR 13 819, z1, pI (bI L), pI (ii j), pI (ii (A 44 j)), pI (ii k)] [] M X = ev true 189 0 55 [pR 13 819, z1, pI (bI L), pI (ii (j + 1)), z4, z5] [] M' X ∧ Wd M0 A L t (120 + 42 * (j + 1)) M' := by
  have h44 : 0 ≤ A 44 j ∧ A 44 j ≤ 20 := by
    rcases Int.lt_or_le j (A 0 3) with h | h
    · obtain ⟨-, -, -, -, -, -, -, -, b9, b10, -⟩ := hw.2.1.2.2.2.1 j h1 h
      exact ⟨b9, b10⟩
    · have := hw.2.1.2.2.2.2.1 j h h2
      omega
  intro m
  induction m with
  | zero =>
    intro k M a1 a2 h
    refine ⟨M, _, _, by rw [q189_88, i_20, ltF (by omega), i_1, ii_add], ?_⟩
    rw [show 120 + 42 * (j + 1) = 120 + 42 * j + 2 + 2 * k by omega]; exact h
  | succ m ih =>
    intro k M a1 a2 h
    obtain ⟨M1, b1, b2⟩ := S40w (X := X) h ht (by omega) (congrArg ii (mo_w (A := A) (L := L) h1 h2 a2 (by omega)).symm)
    obtain ⟨M2, c1, c2⟩ := S40w (X := X) b2 ht (by omega) (congrArg ii (mo_a (A := A) (L := L) h1 h2 a2 (by omega)).symm)
    obtain ⟨M', z4, z5, d1, d2⟩ := ih (k + 1) M2 (by omega) (by omega) (by rw [show 120 + 42 * j + 2 + 2 * (k + 1) = 120 + 42 * j + 2 + 2 * k + 1 + 1 by omega]; exact c2)
    refine ⟨M', z4, z5, ?_, d2⟩
    rw [q189_88, i_20, ltT (by omega), ilt (by omega)]
    unfold mwA at b1
    unfold maA at c1
    by_cases hc : k < A 44 j
    · obtain ⟨r1, r2⟩ := (h.rr hw).1.2.2.2.2.2.2.2.1 j k h1 h2 a2 hc
      obtain ⟨r3, r4⟩ := (b2.rr hw).1.2.2.2.2.2.2.2.1 j k h1 h2 a2 hc
      have t5 := (b2.rr hw).1.1 5 (by omega) (by omega)
      rw [if_pos hc] at b1
      rw [if_pos hc, S26, kb1, q189_114, inR (by omega), rr_i M (by omega), r1, q189_119, b1, kb0, q189_122, ltT (by omega), i_0, bIT]
      cases L with
      | false =>
        rw [if_neg (fun z => absurd z.2 (by decide))] at c1
        rw [cond_false, q189_158, q189_159, ii_m1, c1, kb0, q189_162, i_1, ii_add]
        exact d1
      | true =>
        rw [if_pos ⟨hc, rfl⟩] at c1
        rw [cond_true, i_5, inR (by omega), S26, kb1, q189_151, i_1, ii_add, inR (by omega), rr_i M1 (by omega), r4, show M1 820 5 = ii (A 0 5) from t5, ii_sub, q189_159, c1, kb0, q189_162, i_1, ii_add]
        exact d1
    · rw [if_neg hc] at b1
      rw [if_neg (fun z => hc z.1)] at c1
      rw [if_neg hc, q189_119, ii_m1, b1, kb0, q189_122, ltF (by omega), q189_158, q189_159, ii_m1, c1, kb0, q189_162, i_1, ii_add]
      exact d1
theorem S189s (hw : WR M0 A T) (ht : 0 ≤ t ∧ t ≤ 500) {z1 : PV} : ∀ (m : Nat) (j : Int) (M : Mem) (z4 z5 : PV), j + m = 6 → 0 ≤ j → Wd M0 A L t (120 + 42 * j) M → ∃ M' z4' z5', ev true 189 0 55 [pR 13 819, z1, pI (bI L), pI (ii j), z4, z5] [] M X = ev true 189 0 176 [pR 13 819, z1, pI (bI L), pI (ii 0), z4', z5'] [] M' X ∧ Wd M0 A L t 372 M' := by
  intro m
  induction m with
  | zero =>
    intro j M z4 z5 h1 h2 h
    refine ⟨M, z4, z5, by rw [q189_55, i_6, ltF (by omega), i_0], ?_⟩
    rw [show (372 : Int) = 120 + 42 * j by omega]; exact h
  | succ m ih =>
    intro j M z4 z5 h1 h2 h
    obtain ⟨v0, v1, v2, v3, v4, v5, -⟩ := (h.rr hw).1.2.2.2.1 j h2 (by omega)
    obtain ⟨M1, a1, a2⟩ := S40w (X := X) h ht (by omega) (congrArg ii (mo_s (A := A) (L := L) h2 (by omega)).symm)
    obtain ⟨w0, w1, w2, w3, w4, w5, -⟩ := (a2.rr hw).1.2.2.2.1 j h2 (by omega)
    obtain ⟨M2, b1, b2⟩ := S40w (X := X) a2 ht (by omega) (congrArg ii (mo_c (A := A) (L := L) h2 (by omega)).symm)
    obtain ⟨M3, y4, y5, c1, c2⟩ := S189k (X := X) hw ht h2 (by omega) (z1 := z1) 20 0 M2 (by omega) (by omega) (by rw [show 120 + 42 * j + 2 + 2 * 0 = 120 + 42 * j + 1 + 1 by omega]; exact b2)
    obtain ⟨M', z4', z5', d1, d2⟩ := ih (j + 1) M3 y4 y5 (by omega) (by omega) c2
    refine ⟨M', z4', z5', ?_, d2⟩
    rw [q189_55, i_6, ltT (by omega), i_4, S25 (by omega), kb1, v4, q189_67, a1, kb0, q189_75, i_5, S25 (by omega), kb1, w5, q189_82, b1, kb0, q189_85, i_0, c1, d1]
theorem S189e (hw : WR M0 A T) (ht : 0 ≤ t ∧ t ≤ 500) {z1 z4 z5 : PV} : ∀ (m : Nat) (e : Int) (M : Mem), e + m = 6 → 0 ≤ e → Wd M0 A L t (372 + 2 * e) M → ∃ M', ev true 189 0 176 [pR 13 819, z1, pI (bI L), pI (ii e), z4, z5] [] M X = ev true 189 0 237 [pR 13 819, z1, pI (bI L), pI (ii 0), z4, z5] [] M' X ∧ Wd M0 A L t 384 M' := by
  have g := hw.2.1.1
  intro m
  induction m with
  | zero =>
    intro e M h1 h2 h
    refine ⟨M, by rw [q189_176, i_6, ltF (by omega), i_0], ?_⟩
    rw [show (384 : Int) = 372 + 2 * e by omega]; exact h
  | succ m ih =>
    intro e M h1 h2 h
    have t1 : M 820 1 = ii (A 0 1) := (h.rr hw).1.1 1 (by omega) (by omega)
    obtain ⟨M1, a1, a2⟩ := S40w (X := X) h ht (by omega) (congrArg ii (mo_x (A := A) (L := L) h2 (by omega)).symm)
    have t2 : M1 820 1 = ii (A 0 1) := (a2.rr hw).1.1 1 (by omega) (by omega)
    obtain ⟨M2, b1, b2⟩ := S40w (X := X) a2 ht (by omega) (congrArg ii (mo_y (A := A) (L := L) h2 (by omega)).symm)
    obtain ⟨M', d1, d2⟩ := ih (e + 1) M2 (by omega) (by omega) (by rw [show 372 + 2 * (e + 1) = 372 + 2 * e + 1 + 1 by omega]; exact b2)
    refine ⟨M', ?_, d2⟩
    unfold mxA at a1
    unfold myA at b1
    rw [q189_176, i_6, ltT (by omega), i_1, inR (by omega), t1, ilt (by omega)]
    by_cases hc : e < A 0 1
    · obtain ⟨r0, r1, r2, -⟩ := (h.rr hw).1.2.1 e h2 (by omega)
      rw [if_pos hc] at a1 b1
      rw [if_pos hc, i_2, S29 (by omega), kb1, r2, q189_199, q189_203, a1, kb0, q189_206, i_1, inR (by omega), t2, ltT (by omega), S114 (a2.rr hw) h2 hc, kb1, q189_222, q189_226, b1, kb0, q189_229, i_1, ii_add, d1]
    · rw [if_neg hc] at a1 b1
      rw [if_neg hc, i_0, q189_203, a1, kb0, q189_206, i_1, inR (by omega), t2, ltF (by omega), i_0, q189_226, b1, kb0, q189_229, i_1, ii_add, d1]
theorem S189c (hw : WR M0 A T) (ht : 0 ≤ t ∧ t ≤ 500) {z1 z4 z5 : PV} : ∀ (m : Nat) (c : Int) (M : Mem), c + m = 12 → 0 ≤ c → Wd M0 A L t (384 + c) M → ∃ M', ev true 189 0 237 [pR 13 819, z1, pI (bI L), pI (ii c), z4, z5] [] M X = some (.inl none, M', X) ∧ Wd M0 A L t 396 M' := by
  have g := hw.2.1.1
  intro m
  induction m with
  | zero =>
    intro c M h1 h2 h
    refine ⟨M, by rw [q189_237, i_12, ltF (by omega)], ?_⟩
    rw [show (396 : Int) = 384 + c by omega]; exact h
  | succ m ih =>
    intro c M h1 h2 h
    have t4 : M 820 4 = ii (A 0 4) := (h.rr hw).1.1 4 (by omega) (by omega)
    obtain ⟨M1, a1, a2⟩ := S40w (X := X) h ht (by omega) (congrArg ii (mo_d (A := A) (L := L) h2 (by omega)).symm)
    obtain ⟨M', d1, d2⟩ := ih (c + 1) M1 (by omega) (by omega) (by rw [show 384 + (c + 1) = 384 + c + 1 by omega]; exact a2)
    refine ⟨M', ?_, d2⟩
    unfold mdA at a1
    rw [q189_237, i_12, ltT (by omega), i_4, inR (by omega), t4, ilt (by omega)]
    by_cases hc : c < A 0 4
    · rw [if_pos hc] at a1
      rw [if_pos hc, S120 (h.rr hw) h2 hc, kb1, q189_259, q189_263, a1, kb0, q189_266, i_1, ii_add, d1]
    · rw [if_neg hc] at a1
      rw [if_neg hc, i_0, q189_263, a1, kb0, q189_266, i_1, ii_add, d1]
/-- a moment is written -/
theorem S189 (hw : WR M A T) (ht : 0 ≤ t ∧ t ≤ 500) : ∃ M', ev true 189 0 0 [pR 13 819, pI (ii t), pI (bI L), p0, p0, p0] [] M X = some (.inl none, M', X) ∧ Wd M A L t 396 M' := by
  have h0 : Wd M A L t (3 * 0) (upM M 819 13 (ii (396 * t))) := ⟨by rw [up_s, if_pos rfl, show 396 * t + 3 * 0 = 396 * t by omega], fun b b1 _ => by funext y; exact up_n b1, fun k k1 => up_d k1, fun z _ _ => up_n (by decide), fun z z1 z2 => absurd z2 (by omega)⟩
  obtain ⟨M1, a1, a2⟩ := S189p (X := X) hw ht (z1 := pI (ii t)) (z4 := p0) (z5 := p0) 40 0 _ (by omega) (by omega) h0
  obtain ⟨M2, z4, z5, b1, b2⟩ := S189s (X := X) hw ht (z1 := pI (ii t)) 6 0 M1 p0 p0 (by omega) (by omega) a2
  obtain ⟨M3, c1, c2⟩ := S189e (X := X) hw ht (z1 := pI (ii t)) (z4 := z4) (z5 := z5) 6 0 M2 (by omega) (by omega) b2
  obtain ⟨M4, d1, d2⟩ := S189c (X := X) hw ht (z1 := pI (ii t)) (z4 := z4) (z5 := z5) 12 0 M3 (by omega) (by omega) c2
  exact ⟨M4, by rw [q189_0, i_396, ii_mul, i_0, a1, b1, c1, d1], d2⟩
end MOM
