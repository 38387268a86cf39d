/-! loads: both sides -/
section LOA
set_option maxRecDepth 100000
variable {u p v l g : Nat} {j q e w c T T' tu tv nx off sh i z y N t x a b d o : Int} {A B C I I' A' B' R : AT} {M M' M0 M1 M2 : Mem} {X : PX} {L : Bool} {n s m : Nat} {Q Q' : Nat → AT} {k : Bool} {D : Nat → Int} {f : Int}
def jj (z : Int) : Int64 := Int64.ofInt z
theorem j_0 : (0 : Int64) = jj 0 := rfl
theorem j_W : (2329089562800 : Int64) = jj 2329089562800 := rfl
theorem jj_add (a b : Int) : jj a + jj b = jj (a + b) := (Int64.ofInt_add a b).symm
theorem jj_sub (a b : Int) : jj a - jj b = jj (a - b) := (Int64.ofInt_sub a b).symm
theorem jj_mul (a b : Int) : jj a * jj b = jj (a * b) := (Int64.ofInt_mul a b).symm
def R64 (a : Int) : Prop := 0 ≤ a ∧ a < 9223372036854775808
theorem jj_toInt (h : R64 a) : (jj a).toInt = a := by
  obtain ⟨h1, h2⟩ := h
  exact Int64.toInt_ofInt_of_le (by omega) (by omega)
theorem jj_inj (h : jj a = jj b) (ha : R64 a) (hb : R64 b) : a = b := by
  have := congrArg Int64.toInt h
  rwa [jj_toInt ha, jj_toInt hb] at this
theorem jj_lt (ha : R64 a) (hb : R64 b) : (jj a < jj b) ↔ a < b := by
  rw [Int64.lt_iff_toInt_lt, jj_toInt ha, jj_toInt hb]
theorem jj_div (ha : R64 a) (hb : R64 b) (h0 : 0 < b) : jj a / jj b = jj (a / b) := by
  obtain ⟨a1, a2⟩ := ha
  obtain ⟨b1, b2⟩ := hb
  have m1 : Int64.minValue.toInt = -9223372036854775808 := by decide
  have m2 : Int64.maxValue.toInt = 9223372036854775807 := by decide
  unfold jj
  rw [← Int64.ofInt_tdiv (by omega) (by omega) (by omega) (by omega), Int.tdiv_eq_ediv_of_nonneg a1]
theorem jj_mod (ha : R64 a) (hb : R64 b) (h0 : 0 < b) : jj a - jj a / jj b * jj b = jj (a % b) := by
  rw [jj_div ha hb h0, jj_mul, jj_sub, Int.emod_def, Int.mul_comm]
theorem i2l (h1 : 0 ≤ a) (h2 : a < 1000) : (ii a).toInt64 = jj a := by
  apply Int64.toInt_inj.mp
  rw [Int32.toInt_toInt64, ii_toInt (by omega) (by omega), jj_toInt ⟨h1, by omega⟩]
theorem lg_0 (ha : R64 a) : lg_cmp (jj a) (jj 0) = ii (if a = 0 then 0 else 1) := by
  unfold lg_cmp
  by_cases c : a = 0
  · rw [if_pos c, if_neg (fun z => by
      have := (jj_lt (a := 0) (b := a) (by unfold R64; omega) ha).mp z
      omega), if_pos (by rw [c])]
    rfl
  · rw [if_neg c, if_pos ((jj_lt (a := 0) (b := a) (by unfold R64; omega) ha).mpr (by unfold R64 at ha; omega))]
    rfl
theorem lg_g (ha : R64 a) (hb : R64 b) : (0 < lg_cmp (jj a) (jj b)) ↔ b < a := by
  rw [lg_cmp_gt, jj_lt hb ha]
def WH : Int := 2329089562800
/-- gcd by halves: the class -/
theorem S3l {x0 x2 : Int64} : ∀ (m : Nat) (a b : Nat) (x8 : Int) (z9 z10 : PV), b < 2 ^ m → a < 2 ^ 60 → 0 ≤ x8 → x8 + 2 * m + 1 ≤ 200 → m ≤ 60 → ev true 3 0 9 [pL x0, p0, pL x2, p0, pL (jj a), p0, pL (jj b), p0, pI (ii x8), z9, z10] [] M X = some (.inl (some (pL (jj (Nat.gcd a b : Nat)))), M, X) := by
  have fin : ∀ (a : Nat) (x8 : Int) (z9 z10 : PV), 0 ≤ x8 → x8 < 200 → ev true 3 0 9 [pL x0, p0, pL x2, p0, pL (jj a), p0, pL (jj 0), p0, pI (ii x8), z9, z10] [] M X = some (.inl (some (pL (jj a))), M, X) := fun a x8 z9 z10 h1 h2 => by
    rw [q3_9, i_200, ltT (by omega), j_0, lg_0 (by unfold R64; omega), if_pos rfl, i_0, eqT rfl, q3_45]
  have one : ∀ (a b : Nat) (x8 : Int) (z9 z10 : PV), 0 < b → b < 2 ^ 60 → a < 2 ^ 60 → 0 ≤ x8 → x8 < 200 → ∃ z, ev true 3 0 9 [pL x0, p0, pL x2, p0, pL (jj a), p0, pL (jj b), p0, pI (ii x8), z9, z10] [] M X = ev true 3 0 9 [pL x0, p0, pL x2, p0, pL (jj b), p0, pL (jj (a % b : Nat)), p0, pI (ii (x8 + 1)), z, p0] [] M X := fun a b x8 z9 z10 h1 h2 h3 h4 h5 => by
    have ra : R64 a := by unfold R64; omega
    have rb : R64 b := by unfold R64; omega
    refine ⟨pL (jj (a % b : Nat)), ?_⟩
    rw [q3_9, i_200, ltT (by omega), j_0, lg_0 rb, if_neg (show ¬ (b : Int) = 0 by omega), i_0, eqF (by omega), if_neg (fun z => by have := jj_inj z rb (by unfold R64; omega); omega), jj_mod ra rb (by omega), i_1, ii_add]
    rfl
  intro m
  induction m with
  | zero =>
    intro a b x8 z9 z10 h1 h2 h3 h4 _
    have hb : b = 0 := by omega
    subst hb
    rw [Nat.gcd_zero_right]
    exact fin a x8 z9 z10 h3 (by omega)
  | succ m ih =>
    intro a b x8 z9 z10 h1 h2 h3 h4 h6
    rcases Nat.eq_zero_or_pos b with hb | hb
    · subst hb
      rw [Nat.gcd_zero_right]
      exact fin a x8 z9 z10 h3 (by omega)
    · have p60 : (2 : Nat) ^ (m + 1) ≤ 2 ^ 60 := Nat.pow_le_pow_right (by omega) h6
      obtain ⟨z, e⟩ := one a b x8 z9 z10 hb (by omega) h2 h3 (by omega)
      have g1 : Nat.gcd a b = Nat.gcd b (a % b) := by rw [Nat.gcd_comm a b, Nat.gcd_rec b a, Nat.gcd_comm]
      have hr := Nat.mod_lt a hb
      rw [e, g1]
      rcases Nat.eq_zero_or_pos (a % b) with hc | hc
      · rw [hc, Nat.gcd_zero_right]
        exact fin b (x8 + 1) z p0 (by omega) (by omega)
      · obtain ⟨z', e'⟩ := one b (a % b) (x8 + 1) z p0 hc (by omega) (by omega) (by omega) (by omega)
        have g2 : Nat.gcd b (a % b) = Nat.gcd (a % b) (b % (a % b)) := by rw [Nat.gcd_comm b (a % b), Nat.gcd_rec (a % b) b, Nat.gcd_comm]
        have hr2 := Nat.mod_lt b hc
        have hd := Nat.div_add_mod b (a % b)
        have hq : 1 ≤ b / (a % b) := (Nat.le_div_iff_mul_le hc).mpr (by omega)
        have hm : a % b ≤ (a % b) * (b / (a % b)) := Nat.le_mul_of_pos_right _ hq
        rw [e', g2]
        have hp : (2 : Nat) ^ (m + 1) = 2 * 2 ^ m := by rw [Nat.pow_succ, Nat.mul_comm]
        rw [show x8 + 1 + 1 = x8 + 2 by omega]
        exact ih (a % b) (b % (a % b)) (x8 + 2) z' p0 (by omega) (by omega) (by omega) (by omega) (by omega)
theorem S3 {a b : Nat} (ha : a < 2 ^ 60) (hb : b < 2 ^ 60) : ev true 3 0 0 [pL (jj a), p0, pL (jj b), p0, p0, p0, p0, p0, p0, p0, p0] [] M X = some (.inl (some (pL (jj (Nat.gcd a b : Nat)))), M, X) := by
  rw [q3_0, i_0]
  exact S3l 60 a b 0 p0 p0 hb ha (by omega) (by omega) (by omega)
theorem S42l {x0 x2 : Int64} : ∀ (m : Nat) (a b : Nat) (z8 z9 : PV), b ≤ m → b < 2 ^ 60 → a < 2 ^ 60 → ev true 42 0 6 [pL x0, p0, pL x2, p0, pL (jj a), p0, pL (jj b), p0, z8, z9] [] M X = some (.inl (some (pL (jj (Nat.gcd a b : Nat)))), M, X) := by
  intro m
  induction m with
  | zero =>
    intro a b z8 z9 h0 h1 h2
    have hb : b = 0 := by omega
    subst hb
    rw [Nat.gcd_zero_right, show ((0 : Nat) : Int) = 0 from rfl, q42_6, j_0, lg_0 (by unfold R64; omega), if_pos rfl, i_0, eqT rfl]
  | succ m ih =>
    intro a b z8 z9 h0 h1 h2
    rcases Nat.eq_zero_or_pos b with hb | hb
    · subst hb
      rw [Nat.gcd_zero_right, show ((0 : Nat) : Int) = 0 from rfl, q42_6, j_0, lg_0 (by unfold R64; omega), if_pos rfl, i_0, eqT rfl]
    · have ra : R64 a := by unfold R64; omega
      have rb : R64 b := by unfold R64; omega
      have g1 : Nat.gcd a b = Nat.gcd b (a % b) := by rw [Nat.gcd_comm a b, Nat.gcd_rec b a, Nat.gcd_comm]
      have hr := Nat.mod_lt a hb
      rw [q42_6, j_0, lg_0 rb, if_neg (show ¬ (b : Int) = 0 by omega), i_0, eqF (by omega), if_neg (fun z => by have := jj_inj z rb (by unfold R64; omega); omega), jj_mod ra rb (by omega), g1]
      exact ih b (a % b) _ _ (by omega) (by omega) (by omega)
theorem S42 {a b : Nat} (ha : a < 2 ^ 60) (hb : b < 2 ^ 60) : ev true 42 0 0 [pL (jj a), p0, pL (jj b), p0, p0, p0, p0, p0, p0, p0] [] M X = some (.inl (some (pL (jj (Nat.gcd a b : Nat)))), M, X) := by
  rw [q42_0]
  exact S42l b a b p0 p0 (Nat.le_refl _) hb ha
/-- whether a coming's way leads through a place -/
def onB (A : AT) (q c : Int) : Prop := (if q < A 40 (A 50 c) then q - A 40 (A 50 c) + A 0 0 else q - A 40 (A 50 c)) < (if A 40 (A 50 c) < A 30 (A 26 (A 51 c)) then A 30 (A 26 (A 51 c)) - A 40 (A 50 c) else A 30 (A 26 (A 51 c)) - A 40 (A 50 c) + A 0 0)
noncomputable def onI (A : AT) (q c : Int) : Nat := by
  classical
  exact if onB A q c then (2329089562800 / A 52 c).toNat else 0
noncomputable def lnA (A : AT) (q : Int) : Nat → Nat
  | 0 => 0
  | c + 1 => lnA A q c + onI A q c
theorem lnA_y {c : Nat} (h : onB A q c) : lnA A q (c + 1) = lnA A q c + (2329089562800 / A 52 c).toNat := by
  show lnA A q c + onI A q c = _
  unfold onI
  rw [if_pos h]
theorem lnA_n {c : Nat} (h : ¬ onB A q c) : lnA A q (c + 1) = lnA A q c := by
  show lnA A q c + onI A q c = _
  unfold onI
  rw [if_neg h, Nat.add_zero]
theorem wdiv (h1 : 1 ≤ e) (h2 : e ≤ 30) : 0 ≤ 2329089562800 / e ∧ 2329089562800 / e ≤ 2329089562800 := ⟨Int.ediv_nonneg (by omega) (by omega), Int.ediv_le_self _ (by omega)⟩
theorem ln_in (hi : INV A T) : ∀ c : Nat, (c : Int) ≤ A 0 4 → lnA A q c ≤ c * 2329089562800
  | 0, _ => Nat.le_refl _
  | c + 1, h => by
    have ih := ln_in hi c (by omega)
    obtain ⟨b1, b2, b3, b4, b5, b6, b7, b8⟩ := hi.2.2.2.2.2.1 c (by omega) (by omega)
    have hw := wdiv b5 b6
    rcases Classical.em (onB A q c) with h9 | h9
    · have e9 := lnA_y h9
      generalize 2329089562800 / A 52 c = d at hw e9
      omega
    · have e9 := lnA_n h9
      omega
/-- what of a coming's way is read -/
theorem way_in (hi : INV A T) (h1 : 0 ≤ c) (h2 : c < A 0 4) : (0 ≤ A 50 c ∧ A 50 c < A 0 3) ∧ (0 ≤ A 51 c ∧ A 51 c < A 0 2) ∧ (1 ≤ A 52 c ∧ A 52 c ≤ 30) ∧ (0 ≤ A 40 (A 50 c) ∧ A 40 (A 50 c) < A 0 0) ∧ (0 ≤ A 26 (A 51 c) ∧ A 26 (A 51 c) < A 0 1) ∧ 0 ≤ A 30 (A 26 (A 51 c)) ∧ A 30 (A 26 (A 51 c)) < A 0 0 := by
  obtain ⟨b1, b2, b3, b4, b5, b6, b7, b8⟩ := hi.2.2.2.2.2.1 c h1 h2
  obtain ⟨d1, d2, -⟩ := hi.2.2.2.1 (A 50 c) b1 b2
  obtain ⟨w1, w2, -⟩ := hi.2.2.1 (A 51 c) b3 b4
  obtain ⟨x1, x2, -⟩ := hi.2.1 (A 26 (A 51 c)) w1 w2
  exact ⟨⟨b1, b2⟩, ⟨b3, b4⟩, ⟨b5, b6⟩, ⟨d1, d2⟩, ⟨w1, w2⟩, x1, x2⟩
theorem S63l (hp : PLv M 49 A) (hi : INV A T) (h1 : 0 ≤ q) (h2 : q < A 0 0) : ∀ (m : Nat) (c : Nat) (z5 z6 z7 z8 z9 : PV), (c : Int) + m = A 0 4 → ev true 63 0 5 [pR 5 49, pI (ii q), pL (jj (lnA A q c : Nat)), p0, pI (ii c), z5, z6, z7, z8, z9] [] M X = some (.inl (some (pL (jj (lnA A q (A 0 4).toNat : Nat)))), M, X) := by
  have g := hi.1
  obtain ⟨p1, p2, p3, p4, p5, p6, p7, p8, p9, p10, p11, p12, p13, p14, p15, p16, p17⟩ := hp
  obtain ⟨m1, m2, m3, m4, m5, m6, m7, m8, m9, m10, m11, m12, m13, m14, m15, m16⟩ := pll49
  intro m
  induction m with
  | zero =>
    intro c z5 z6 z7 z8 z9 h
    rw [q63_5, p5, ltF (by omega), show (A 0 4).toNat = c by omega]
  | succ m ih =>
    intro c z5 z6 z7 z8 z9 h
    obtain ⟨⟨b1, b2⟩, ⟨b3, b4⟩, ⟨b5, b6⟩, ⟨d1, d2⟩, ⟨w1, w2⟩, x1, x2⟩ := way_in (c := c) hi (by omega) (by omega)
    have hw := wdiv b5 b6
    have hl := ln_in (q := q) hi c (by omega)
    rw [q63_5, p5, ltT (by omega), S12 (by omega) (by omega), kb1, p12 c (by omega) (by omega), q63_27, S12 b1 (by omega), kb1, p11 _ b1 b2, q63_30, S12 (by omega) (by omega), kb1, p13 c (by omega) (by omega), q63_49, S12 b3 (by omega), kb1, p9 _ b3 b4, q63_52, S12 w1 (by omega), kb1, p7 _ w1 w2, q63_55, S12 (by omega) (by omega), kb1, p14 c (by omega) (by omega), q63_66, ii_sub, p1, ii_add, ilt (by omega)]
    have e1 : ∀ (z8 z9 : PV), (if A 40 (A 50 c) < A 30 (A 26 (A 51 c)) then ev true 63 0 93 [pR 5 49, pI (ii q), pL (jj (lnA A q c : Nat)), p0, pI (ii c), pI (ii (A 40 (A 50 c))), pI (ii (A 30 (A 26 (A 51 c)))), pI (ii (A 52 c)), z8, z9] [pI (ii (A 30 (A 26 (A 51 c)) - A 40 (A 50 c)))] M X else ev true 63 0 93 [pR 5 49, pI (ii q), pL (jj (lnA A q c : Nat)), p0, pI (ii c), pI (ii (A 40 (A 50 c))), pI (ii (A 30 (A 26 (A 51 c)))), pI (ii (A 52 c)), z8, z9] [pI (ii (A 30 (A 26 (A 51 c)) - A 40 (A 50 c) + A 0 0))] M X) = ev true 63 0 93 [pR 5 49, pI (ii q), pL (jj (lnA A q c : Nat)), p0, pI (ii c), pI (ii (A 40 (A 50 c))), pI (ii (A 30 (A 26 (A 51 c)))), pI (ii (A 52 c)), z8, z9] [pI (ii (if A 40 (A 50 c) < A 30 (A 26 (A 51 c)) then A 30 (A 26 (A 51 c)) - A 40 (A 50 c) else A 30 (A 26 (A 51 c)) - A 40 (A 50 c) + A 0 0))] M X := fun z8 z9 => by split <;> rfl
    rw [e1, q63_93, ii_sub, p1, ii_add, ilt (by omega)]
    have e2 : ∀ (x8 : Int32) (z9 : PV), (if q < A 40 (A 50 c) then ev true 63 0 117 [pR 5 49, pI (ii q), pL (jj (lnA A q c : Nat)), p0, pI (ii c), pI (ii (A 40 (A 50 c))), pI (ii (A 30 (A 26 (A 51 c)))), pI (ii (A 52 c)), pI x8, z9] [pI (ii (q - A 40 (A 50 c) + A 0 0))] M X else ev true 63 0 117 [pR 5 49, pI (ii q), pL (jj (lnA A q c : Nat)), p0, pI (ii c), pI (ii (A 40 (A 50 c))), pI (ii (A 30 (A 26 (A 51 c)))), pI (ii (A 52 c)), pI x8, z9] [pI (ii (q - A 40 (A 50 c)))] M X) = ev true 63 0 117 [pR 5 49, pI (ii q), pL (jj (lnA A q c : Nat)), p0, pI (ii c), pI (ii (A 40 (A 50 c))), pI (ii (A 30 (A 26 (A 51 c)))), pI (ii (A 52 c)), pI x8, z9] [pI (ii (if q < A 40 (A 50 c) then q - A 40 (A 50 c) + A 0 0 else q - A 40 (A 50 c)))] M X := fun x8 z9 => by split <;> rfl
    have n1 : 0 ≤ (if A 40 (A 50 c) < A 30 (A 26 (A 51 c)) then A 30 (A 26 (A 51 c)) - A 40 (A 50 c) else A 30 (A 26 (A 51 c)) - A 40 (A 50 c) + A 0 0) ∧ (if A 40 (A 50 c) < A 30 (A 26 (A 51 c)) then A 30 (A 26 (A 51 c)) - A 40 (A 50 c) else A 30 (A 26 (A 51 c)) - A 40 (A 50 c) + A 0 0) ≤ 80 := by split <;> omega
    have n2 : 0 ≤ (if q < A 40 (A 50 c) then q - A 40 (A 50 c) + A 0 0 else q - A 40 (A 50 c)) ∧ (if q < A 40 (A 50 c) then q - A 40 (A 50 c) + A 0 0 else q - A 40 (A 50 c)) ≤ 80 := by split <;> omega
    rw [e2, q63_117, i_0, i2l (by omega) (by omega), j_0, j_W, ltT (a := 0) (b := A 52 c) (by omega), if_neg (show ¬ jj (A 52 c) = jj 0 from fun z => by have := jj_inj z (by unfold R64; omega) (by unfold R64; omega); omega), jj_div (by unfold R64; omega) (by unfold R64; omega) (by omega), jj_add]
    rcases Classical.em (onB A q c) with h9 | h9
    · have hi2 := ih (c + 1)
      rw [lnA_y h9, show ((lnA A q c + (2329089562800 / A 52 c).toNat : Nat) : Int) = (lnA A q c : Int) + 2329089562800 / A 52 c by omega] at hi2
      unfold onB at h9
      rw [ltT (by omega), q63_141, i_1, ii_add]
      exact hi2 _ _ _ _ _ (by omega)
    · have hi2 := ih (c + 1)
      rw [lnA_n h9] at hi2
      unfold onB at h9
      rw [ltF (by omega), q63_141, i_1, ii_add]
      exact hi2 _ _ _ _ _ (by omega)
theorem S63 (hp : PLv M 49 A) (hi : INV A T) (h1 : 0 ≤ q) (h2 : q < A 0 0) : ev true 63 0 0 [pR 5 49, pI (ii q), p0, p0, p0, p0, p0, p0, p0, p0] [] M X = some (.inl (some (pL (jj (lnA A q (A 0 4).toNat : Nat)))), M, X) := by
  have g := hi.1
  have := S63l (X := X) hp hi h1 h2 (A 0 4).toNat 0 p0 p0 p0 p0 p0 (by omega)
  rw [q63_0, i_0, j_0]
  exact this
theorem emN {a N : Int} (h1 : 0 ≤ a) (h2 : a < 2 * N) : a % N = if a < N then a else a - N := by
  split
  · next h => exact Int.emod_eq_of_lt h1 h
  · next h =>
    rw [show a = (a - N) + N * 1 by omega, Int.add_mul_emod_self_left, Int.emod_eq_of_lt (by omega) (by omega)]
    omega
theorem S130 (hr : RR M A) (hi : INV A T) (h1 : 0 ≤ q) (h2 : q < A 0 0) (h3 : 0 ≤ c) (h4 : c < A 0 4) : ∃ r : Bool, ev true 130 0 0 [pR 13 819, pI (ii q), pI (ii c), p0, p0, p0] [] M X = some (.inl (some (pI (bI r))), M, X) ∧ (r = true ↔ onB A q c) := by
  have g := hi.1
  have t0 : rr M 0 = ii (A 0 0) := hr.1 0 (by omega) (by omega)
  obtain ⟨⟨b1, b2⟩, ⟨b3, b4⟩, ⟨b5, b6⟩, ⟨d1, d2⟩, ⟨w1, w2⟩, x1, x2⟩ := way_in hi h3 h4
  obtain ⟨c0, c1, c2, c3⟩ := hr.2.2.2.2.1 c h3 (by omega)
  obtain ⟨v0, -⟩ := hr.2.2.2.1 (A 50 c) b1 (by omega)
  obtain ⟨u0, -⟩ := hr.2.2.1 (A 51 c) b3 (by omega)
  obtain ⟨y0, -⟩ := hr.2.1 (A 26 (A 51 c)) w1 (by omega)
  have md : ∀ a : Int, 0 ≤ a → a < 2 * A 0 0 → ii a - ii a / ii (A 0 0) * ii (A 0 0) = ii (if a < A 0 0 then a else a - A 0 0) := fun a h5 h6 => by
    rw [ii_div (by omega) (by omega) (by omega) (by omega), ii_mul, ii_sub, ← emN h5 h6, Int.emod_def, Int.mul_comm]
  have pre : ev true 130 0 0 [pR 13 819, pI (ii q), pI (ii c), p0, p0, p0] [] M X = (if ii (if A 30 (A 26 (A 51 c)) - A 40 (A 50 c) + A 0 0 < A 0 0 then A 30 (A 26 (A 51 c)) - A 40 (A 50 c) + A 0 0 else A 30 (A 26 (A 51 c)) - A 40 (A 50 c) + A 0 0 - A 0 0) = ii 0 then some (.inl (some (pI (ii 1))), M, X) else if ii (if q - A 40 (A 50 c) + A 0 0 < A 0 0 then q - A 40 (A 50 c) + A 0 0 else q - A 40 (A 50 c) + A 0 0 - A 0 0) < ii (if A 30 (A 26 (A 51 c)) - A 40 (A 50 c) + A 0 0 < A 0 0 then A 30 (A 26 (A 51 c)) - A 40 (A 50 c) + A 0 0 else A 30 (A 26 (A 51 c)) - A 40 (A 50 c) + A 0 0 - A 0 0) then some (.inl (some (pI (ii 1))), M, X) else some (.inl (some (pI (ii 0))), M, X)) := by
    rw [q130_0, i_0, S34 (by omega), kb1, c0, q130_7, i_0, S25 (by omega), kb1, v0, q130_11, i_1, S34 (by omega), kb1, c1, q130_20, i_0, S30 (by omega), kb1, u0, q130_24, i_0, S29 (by omega), kb1, y0, q130_28, S23, kb1, t0, q130_38, ii_sub, ii_add, S23, kb1, t0, q130_43, i_0, eqF (a := A 0 0) (b := 0) (by omega), md _ (by omega) (by omega), S23, kb1, t0, q130_58, ii_sub, S23, kb1, t0, q130_63, i_0, eqF (a := A 0 0) (b := 0) (by omega), ii_add, md _ (by omega) (by omega), q130_69, i_1, q130_74, rk1, q130_74, rk0]
  rw [pre]
  unfold onB
  by_cases e1 : A 40 (A 50 c) ≤ A 30 (A 26 (A 51 c))
  · rw [if_neg (show ¬ A 30 (A 26 (A 51 c)) - A 40 (A 50 c) + A 0 0 < A 0 0 by omega), show A 30 (A 26 (A 51 c)) - A 40 (A 50 c) + A 0 0 - A 0 0 = A 30 (A 26 (A 51 c)) - A 40 (A 50 c) by omega]
    by_cases e2 : A 30 (A 26 (A 51 c)) - A 40 (A 50 c) = 0
    · refine ⟨true, by rw [eqT e2]; rfl, fun _ => ?_, fun _ => rfl⟩
      rw [if_neg (show ¬ A 40 (A 50 c) < A 30 (A 26 (A 51 c)) by omega)]
      split <;> omega
    · rw [eqF (by omega), if_pos (show A 40 (A 50 c) < A 30 (A 26 (A 51 c)) by omega)]
      by_cases e3 : q < A 40 (A 50 c)
      · rw [if_pos (show q - A 40 (A 50 c) + A 0 0 < A 0 0 by omega), if_pos e3]
        by_cases e4 : q - A 40 (A 50 c) + A 0 0 < A 30 (A 26 (A 51 c)) - A 40 (A 50 c)
        · exact ⟨true, by rw [ltT (by omega)]; rfl, fun _ => e4, fun _ => rfl⟩
        · exact ⟨false, by rw [ltF (by omega)]; rfl, fun z => absurd z (by decide), fun z => absurd z e4⟩
      · rw [if_neg (show ¬ q - A 40 (A 50 c) + A 0 0 < A 0 0 by omega), if_neg e3, show q - A 40 (A 50 c) + A 0 0 - A 0 0 = q - A 40 (A 50 c) by omega]
        by_cases e4 : q - A 40 (A 50 c) < A 30 (A 26 (A 51 c)) - A 40 (A 50 c)
        · exact ⟨true, by rw [ltT (by omega)]; rfl, fun _ => e4, fun _ => rfl⟩
        · exact ⟨false, by rw [ltF (by omega)]; rfl, fun z => absurd z (by decide), fun z => absurd z e4⟩
  · rw [if_pos (show A 30 (A 26 (A 51 c)) - A 40 (A 50 c) + A 0 0 < A 0 0 by omega), eqF (by omega), if_neg (show ¬ A 40 (A 50 c) < A 30 (A 26 (A 51 c)) by omega)]
    by_cases e3 : q < A 40 (A 50 c)
    · rw [if_pos (show q - A 40 (A 50 c) + A 0 0 < A 0 0 by omega), if_pos e3]
      by_cases e4 : q - A 40 (A 50 c) + A 0 0 < A 30 (A 26 (A 51 c)) - A 40 (A 50 c) + A 0 0
      · exact ⟨true, by rw [ltT (by omega)]; rfl, fun _ => e4, fun _ => rfl⟩
      · exact ⟨false, by rw [ltF (by omega)]; rfl, fun z => absurd z (by decide), fun z => absurd z e4⟩
    · rw [if_neg (show ¬ q - A 40 (A 50 c) + A 0 0 < A 0 0 by omega), if_neg e3, show q - A 40 (A 50 c) + A 0 0 - A 0 0 = q - A 40 (A 50 c) by omega]
      by_cases e4 : q - A 40 (A 50 c) < A 30 (A 26 (A 51 c)) - A 40 (A 50 c) + A 0 0
      · exact ⟨true, by rw [ltT (by omega)]; rfl, fun _ => e4, fun _ => rfl⟩
      · exact ⟨false, by rw [ltF (by omega)]; rfl, fun z => absurd z (by decide), fun z => absurd z e4⟩
theorem S190l (hr : RR M A) (hi : INV A T) (h1 : 0 ≤ q) (h2 : q < A 0 0) : ∀ (m : Nat) (c : Nat), (c : Int) + m = A 0 4 → ev true 190 0 5 [pR 13 819, pI (ii q), pL (jj (lnA A q c : Nat)), p0, pI (ii c)] [] M X = some (.inl (some (pL (jj (lnA A q (A 0 4).toNat : Nat)))), M, X) := by
  have g := hi.1
  have t4 : M 820 4 = ii (A 0 4) := hr.1 4 (by omega) (by omega)
  intro m
  induction m with
  | zero =>
    intro c h
    rw [q190_5, i_4, inR (by omega), t4, ltF (by omega), show (A 0 4).toNat = c by omega]
  | succ m ih =>
    intro c h
    obtain ⟨-, -, ⟨b5, b6⟩, -⟩ := way_in (c := c) hi (by omega) (by omega)
    have hw := wdiv b5 b6
    obtain ⟨c0, c1, c2, c3⟩ := hr.2.2.2.2.1 c (by omega) (by omega)
    obtain ⟨r, r1, r2⟩ := S130 (X := X) (c := c) hr hi h1 h2 (by omega) (by omega)
    have hi2 := ih (c + 1)
    rw [q190_5, i_4, inR (by omega), t4, ltT (by omega), r1, kb1, q190_24, i_0, bIT]
    cases r with
    | true =>
      rw [lnA_y (r2.mp rfl), show ((lnA A q c + (2329089562800 / A 52 c).toNat : Nat) : Int) = (lnA A q c : Int) + 2329089562800 / A 52 c by omega] at hi2
      rw [cond_true, i_2, S34 (by omega), kb1, c2, q190_37, i2l (by omega) (by omega), j_0, j_W, if_neg (show ¬ jj (A 52 c) = jj 0 from fun z => by have := jj_inj z (by unfold R64; omega) (by unfold R64; omega); omega), jj_div (by unfold R64; omega) (by unfold R64; omega) (by omega), q190_43, jj_add, i_1, ii_add]
      exact hi2 (by omega)
    | false =>
      rw [lnA_n (fun z => absurd (r2.mpr z) (by decide))] at hi2
      rw [cond_false, j_0, q190_43, jj_add, Int.add_zero, i_1, ii_add]
      exact hi2 (by omega)
theorem S190 (hr : RR M A) (hi : INV A T) (h1 : 0 ≤ q) (h2 : q < A 0 0) : ev true 190 0 0 [pR 13 819, pI (ii q), p0, p0, p0] [] M X = some (.inl (some (pL (jj (lnA A q (A 0 4).toNat : Nat)))), M, X) := by
  have g := hi.1
  have := S190l (X := X) hr hi h1 h2 (A 0 4).toNat 0 (by omega)
  rw [q190_0, i_0, j_0]
  exact this
theorem P_load_n (hz : ZW T A n Q k I s D f) (ha : B32 a) (hc : ¬ (0 ≤ a ∧ a < A 0 0)) : (∀ x : Int32, cT (fun M => CW M A n Q k I s D f) 141 [pR 1 0, pI (ii a), pI x, p0, p0, p0, p0] 1) ∧ ∀ x : Int32, ∀ M X, RWx M A n Q k I s D f → ∃ M', ev true 216 0 0 [pR 13 819, pI (ii a), pI x, p0, p0, p0, p0] [] M X = some (.inl (some (pL (jj 0))), M', X) ∧ RWx M' A n Q k I s D f ∧ (∀ b, b < 819 → M' b = M b) ∧ M' 819 7 = ii 1 := by
  have hi := hz.1.1
  have g := hi.1
  refine ⟨fun x M X h hX => ?_, fun x M X h => ⟨upM (upM M 819 7 (ii 0)) 819 7 (ii 1), ?_, (h.u7 hz).u7 hz, fun y hy => by rw [fr7 y hy, fr7 y hy], st7⟩⟩
  · rw [q141_0, h.1.1.1, S1 ha (by omega), kt1, q141_11, i_0, bIT, decide_eq_false hc, cond_false, thT hX (by decide) (by decide)]
  · rw [q216_0, i_0, S110 (RR_k h.1.1 (by funext y; exact up_n (by decide))) hi ha, kb1, q216_10, i_0, bIT, decide_eq_false hc, cond_false, i_1, S27, kb1, q216_18, i2l (by omega) (by omega)]
theorem P_load_y (hz : ZW T A n Q k I s D f) (hc : 0 ≤ a ∧ a < A 0 0) (r : Bool) : ∃ v : Int64, (∀ M X, CW M A n Q k I s D f → ev true 141 0 0 [pR 1 0, pI (ii a), pI (bI r), p0, p0, p0, p0] [] M X = some (.inl (some (pL v)), M, X)) ∧ ∀ M X, RWx M A n Q k I s D f → ∃ M', ev true 216 0 0 [pR 13 819, pI (ii a), pI (bI r), p0, p0, p0, p0] [] M X = some (.inl (some (pL v)), M', X) ∧ RWx M' A n Q k I s D f ∧ (∀ b, b < 819 → M' b = M b) ∧ M' 819 7 = ii 0 := by
  have hi := hz.1.1
  have g := hi.1
  have hl := ln_in (q := a) hi (A 0 4).toNat (by omega)
  have hl2 : lnA A a (A 0 4).toNat < 2 ^ 60 := by omega
  have hg : 0 < Nat.gcd 2329089562800 (lnA A a (A 0 4).toNat) := Nat.gcd_pos_of_pos_left _ (by decide)
  have hg2 : Nat.gcd 2329089562800 (lnA A a (A 0 4).toNat) ≤ 2329089562800 := Nat.gcd_le_left _ (by decide)
  have rg : R64 (Nat.gcd 2329089562800 (lnA A a (A 0 4).toNat) : Nat) := by unfold R64; omega
  have ng : ¬ jj (Nat.gcd 2329089562800 (lnA A a (A 0 4).toNat) : Nat) = jj 0 := fun z => by
    have := jj_inj z rg (by unfold R64; omega)
    omega
  refine ⟨bif r then jj 2329089562800 / jj (Nat.gcd 2329089562800 (lnA A a (A 0 4).toNat) : Nat) else jj (lnA A a (A 0 4).toNat : Nat) / jj (Nat.gcd 2329089562800 (lnA A a (A 0 4).toNat) : Nat), fun M X h => ?_, fun M X h => ⟨upM M 819 7 (ii 0), ?_, h.u7 hz, fr7, st7⟩⟩
  · have e3 := S3 (M := M) (X := X) (a := 2329089562800) (b := lnA A a (A 0 4).toNat) (by decide) hl2
    have e3 : ev true 3 0 0 [pL (jj 2329089562800), p0, pL (jj (lnA A a (A 0 4).toNat : Nat)), p0, p0, p0, p0, p0, p0, p0, p0] [] M X = _ := e3
    rw [q141_0, h.1.1.1, S1 (b32 (by omega)) (by omega), kt1, q141_11, i_0, bIT, decide_eq_true hc, cond_true, S63 h.1.1 hi hc.1 hc.2, kt1, q141_30, j_W, e3, kt1, q141_38, j_0, j_W, lg_0 rg, if_neg (show ¬ ((Nat.gcd 2329089562800 (lnA A a (A 0 4).toNat) : Nat) : Int) = 0 by omega), i_0, eqF (by omega), bIT]
    cases r
    · rw [cond_false, cond_false, if_neg ng, q141_66]
    · rw [cond_true, cond_true, if_neg ng, q141_66]
  · have hr : RR (upM M 819 7 (ii 0)) A := RR_k h.1.1 (by funext y; exact up_n (by decide))
    have e3 := S42 (M := upM M 819 7 (ii 0)) (X := X) (a := 2329089562800) (b := lnA A a (A 0 4).toNat) (by decide) hl2
    have e3 : ev true 42 0 0 [pL (jj 2329089562800), p0, pL (jj (lnA A a (A 0 4).toNat : Nat)), p0, p0, p0, p0, p0, p0, p0] [] (upM M 819 7 (ii 0)) X = _ := e3
    rw [q216_0, i_0, S110 hr hi (b32 (by omega)), kb1, q216_10, i_0, bIT, decide_eq_true hc, cond_true, S190 hr hi hc.1 hc.2, kb1, q216_25, j_W, e3, kb1, q216_33, j_0, j_W, i_0, bIT]
    cases r
    · rw [cond_false, cond_false, if_neg ng, q216_52]
    · rw [cond_true, cond_true, if_neg ng, q216_52]
/-- the heaviest of the first places -/
noncomputable def hvA (A : AT) : Nat → Int
  | 0 => 0
  | q + 1 => if lnA A (hvA A q) (A 0 4).toNat < lnA A q (A 0 4).toNat then q else hvA A q
theorem hv_in (A : AT) : ∀ q : Nat, 0 ≤ hvA A q ∧ (0 < q → hvA A q < q)
  | 0 => ⟨Int.le_refl _, fun h => absurd h (by omega)⟩
  | q + 1 => by
    have ih := hv_in A q
    unfold hvA
    split
    · exact ⟨by omega, fun _ => by omega⟩
    · rcases Nat.eq_zero_or_pos q with rfl | h
      · exact ⟨Int.le_refl _, fun _ => by show (0 : Int) < ((0 + 1 : Nat) : Int); omega⟩
      · have := ih.2 h
        exact ⟨ih.1, fun _ => by omega⟩
theorem C_heavy (hp : PLv M 49 A) (hi : INV A T) : ∀ (m q : Nat), (q : Int) + m = A 0 0 → 0 < q → ev true 136 0 4 [pR 1 0, pI (ii (hvA A q)), pI (ii q)] [] M X = some (.inl (some (pI (ii (hvA A (A 0 0).toNat)))), M, X) := by
  have g := hi.1
  have hR : ∀ q : Int, R64 (lnA A q (A 0 4).toNat : Nat) := fun q => by
    have hl := ln_in (q := q) hi (A 0 4).toNat (by omega)
    unfold R64
    omega
  intro m
  induction m with
  | zero =>
    intro q h h0
    rw [q136_4, hp.1, ltF (by omega), show (A 0 0).toNat = q by omega]
  | succ m ih =>
    intro q h h0
    have hh := hv_in A q
    have hh2 := hh.2 h0
    have hi2 := ih (q + 1) (by omega) (by omega)
    rw [q136_4, hp.1, ltT (by omega), S63 hp hi (by omega) (by omega), kb1, q136_23, S63 hp hi hh.1 (by omega), kb1, q136_31]
    by_cases c : lnA A (hvA A q) (A 0 4).toNat < lnA A q (A 0 4).toNat
    · have e : hvA A (q + 1) = q := if_pos c
      rw [e] at hi2
      rw [if_pos ((lg_g (hR _) (hR _)).mpr (by omega)), q136_37, i_1, ii_add]
      exact hi2
    · have e : hvA A (q + 1) = hvA A q := if_neg c
      rw [e] at hi2
      rw [if_neg (fun z => c (by have := (lg_g (hR _) (hR _)).mp z; omega)), q136_37, i_1, ii_add]
      exact hi2
theorem R_heavy (hr : RR M A) (hi : INV A T) : ∀ (m q : Nat), (q : Int) + m = A 0 0 → 0 < q → ev true 217 0 9 [pR 13 819, pI (ii (hvA A q)), pI (ii q)] [] M X = some (.inl (some (pI (ii (hvA A (A 0 0).toNat)))), M, X) := by
  have g := hi.1
  have t0 : rr M 0 = ii (A 0 0) := hr.1 0 (by omega) (by omega)
  have hR : ∀ q : Int, R64 (lnA A q (A 0 4).toNat : Nat) := fun q => by
    have hl := ln_in (q := q) hi (A 0 4).toNat (by omega)
    unfold R64
    omega
  intro m
  induction m with
  | zero =>
    intro q h h0
    rw [q217_9, S23, kb1, t0, q217_14, ltF (by omega), show (A 0 0).toNat = q by omega]
  | succ m ih =>
    intro q h h0
    have hh := hv_in A q
    have hh2 := hh.2 h0
    have hi2 := ih (q + 1) (by omega) (by omega)
    rw [q217_9, S23, kb1, t0, q217_14, ltT (by omega), S190 hr hi (by omega) (by omega), kb1, q217_22, S190 hr hi hh.1 (by omega), kb1, q217_27]
    by_cases c : lnA A (hvA A q) (A 0 4).toNat < lnA A q (A 0 4).toNat
    · have e : hvA A (q + 1) = q := if_pos c
      rw [e] at hi2
      rw [if_pos ((lg_g (hR _) (hR _)).mpr (by omega)), q217_33, i_1, ii_add]
      exact hi2
    · have e : hvA A (q + 1) = hvA A q := if_neg c
      rw [e] at hi2
      rw [if_neg (fun z => c (by have := (lg_g (hR _) (hR _)).mp z; omega)), q217_33, i_1, ii_add]
      exact hi2
theorem hv_1 (A : AT) : hvA A 1 = 0 := by
  show (if lnA A 0 _ < lnA A ((0 : Nat) : Int) _ then ((0 : Nat) : Int) else 0) = 0
  split <;> rfl
theorem P_heavy (hz : ZW T A n Q k I s D f) : cA (fun M => CW M A n Q k I s D f) (fun M => CW M A n Q k I s D f) 136 [pR 1 0, p0, p0] (ii (hvA A (A 0 0).toNat)) ∧ rA (fun M => RWx M A n Q k I s D f) (fun M => RWx M A n Q k I s D f) 217 [pR 13 819, p0, p0] (ii (hvA A (A 0 0).toNat)) 0 := by
  have hi := hz.1.1
  have g := hi.1
  refine ⟨fun M X h => ⟨M, ?_, h, fun _ _ => rfl⟩, fun M X h => ⟨upM M 819 7 (ii 0), ?_, h.u7 hz, fr7, st7⟩⟩
  · have e := C_heavy (X := X) h.1.1 hi ((A 0 0).toNat - 1) 1 (by omega) (by omega)
    rw [hv_1] at e
    rw [q136_0, i_0, i_1]
    exact e
  · have e := R_heavy (X := X) (RR_k (M' := upM M 819 7 (ii 0)) h.1.1 (by funext y; exact up_n (by decide))) hi ((A 0 0).toNat - 1) 1 (by omega) (by omega)
    rw [hv_1] at e
    rw [q217_0, i_0, i_1]
    exact e
end LOA
