/-! counts on the belt -/
section CNT
set_option maxRecDepth 100000
variable {u s p l t g n : Nat} {j k q e w c T tu nx v off sh i z y N m : Int} {A A' : AT} {M M' : Mem} {X : PX} {f : Nat}
/-- the place of a cell -/
def rot (N tu z : Int) : Int := if z + tu < N then z + tu else z + tu - N
theorem rot_in (h1 : 0 ≤ tu) (h2 : tu < N) (h3 : 0 ≤ z) (h4 : z < N) : 0 ≤ rot N tu z ∧ rot N tu z < N ∧ cR N tu (rot N tu z) = z := by
  unfold rot cR
  split <;> split <;> omega
theorem cnI_r {n : Nat} (hn : 0 < n) (P : Int → Bool) : ∀ t : Nat, t < n → cnI (fun z => P (rot n t z)) n = cnI P n
  | 0, _ => cnI_c fun y a b => by
    have : rot n ((0 : Nat) : Int) y = y := by unfold rot; split <;> omega
    rw [this]
  | t + 1, ht => by
    rw [← cnI_p (fun z => P (rot n ((t + 1 : Nat) : Int) z)) hn, ← cnI_r hn P t (by omega)]
    refine cnI_c fun y a b => ?_
    have : rot n ((t + 1 : Nat) : Int) (prv n y) = rot n (t : Int) y := by
      unfold rot prv
      split <;> split <;> split <;> omega
    rw [this]
def bin (b : Bool) : Int := if b then 1 else 0
theorem cnI_1 (P : Int → Bool) (n : Nat) : cnI P (n + 1) = cnI P n + (if P n then 1 else 0) := rfl
def cC (P : Int → Bool) (A : AT) (f : Nat) : Int := cnI (fun q => P (A f q)) (A 0 0).toNat
theorem S76l (h : RVt M g N A tu) (hl : RgL g) (hb : ∀ q, 0 ≤ q → q < N → -1 ≤ A 20 q ∧ A 20 q < 100) : ∀ (m n : Nat), (n : Int) + m = N → ev true 76 0 4 [pR 9 g, pI (ii (cnI (fun z => decide (A 20 (rot N tu z) ≠ -1)) n)), pI (ii n)] [] M X = some (.inl (some (pI (ii (cnI (fun z => decide (A 20 (rot N tu z) ≠ -1)) N.toNat)))), M, X) := by
  obtain ⟨a1, a2, a3, a4, a5, a6⟩ := h
  have l1 := hl.1
  intro m
  induction m with
  | zero =>
    intro n hn
    rw [q76_4, a5, ltF (by omega), show N.toNat = n by omega]
  | succ m ih =>
    intro n hn
    obtain ⟨r1, r2, r3⟩ := rot_in (z := n) a1 a2 (by omega) (by omega)
    obtain ⟨b1, b2⟩ := hb _ r1 r2
    have hc := (a6 _ r1 r2).1
    rw [r3] at hc
    have h := ih (n + 1) (by omega)
    rw [cnI_1, show ((n + 1 : Nat) : Int) = (n : Int) + 1 from rfl] at h
    rw [q76_4, a5, ltT (by omega), S12 (by omega) (by omega), kb1, q76_21, hc, ii_m1, ieq (by omega)]
    by_cases c : A 20 (rot N tu n) = -1
    · rw [decide_eq_false (fun z => z c)] at h
      rw [if_pos c, i_0, q76_30, ii_add, i_1, ii_add]
      exact h
    · rw [decide_eq_true c] at h
      rw [if_neg c, i_1, q76_30, ii_add, i_1, ii_add]
      exact h
theorem S77l (h : RVt M g N A tu) (hl : RgL g) (hb : ∀ q, 0 ≤ q → q < N → -1 ≤ A 25 q ∧ A 25 q < 100) : ∀ (m n : Nat), (n : Int) + m = N → ev true 77 0 4 [pR 9 g, pI (ii (cnI (fun z => decide (A 25 (rot N tu z) ≠ -1)) n)), pI (ii n)] [] M X = some (.inl (some (pI (ii (cnI (fun z => decide (A 25 (rot N tu z) ≠ -1)) N.toNat)))), M, X) := by
  obtain ⟨a1, a2, a3, a4, a5, a6⟩ := h
  have l1 := hl.2.2.2.2.2
  intro m
  induction m with
  | zero =>
    intro n hn
    rw [q77_4, a5, ltF (by omega), show N.toNat = n by omega]
  | succ m ih =>
    intro n hn
    obtain ⟨r1, r2, r3⟩ := rot_in (z := n) a1 a2 (by omega) (by omega)
    obtain ⟨b1, b2⟩ := hb _ r1 r2
    have hc := (a6 _ r1 r2).2.2.2.2
    rw [r3] at hc
    have h := ih (n + 1) (by omega)
    rw [cnI_1, show ((n + 1 : Nat) : Int) = (n : Int) + 1 from rfl] at h
    rw [q77_4, a5, ltT (by omega), S12 (by omega) (by omega), kb1, q77_21, hc, ii_m1, ieq (by omega)]
    by_cases c : A 25 (rot N tu n) = -1
    · rw [decide_eq_false (fun z => z c)] at h
      rw [if_pos c, i_0, q77_30, ii_add, i_1, ii_add]
      exact h
    · rw [decide_eq_true c] at h
      rw [if_neg c, i_1, q77_30, ii_add, i_1, ii_add]
      exact h
theorem S83l (h : RVt M g N A tu) (hl : RgL g) (hw : -1 ≤ w ∧ w < 100) (hb : ∀ q, 0 ≤ q → q < N → -1 ≤ A 20 q ∧ A 20 q < 100) : ∀ (m n : Nat), (n : Int) + m = N → ev true 83 0 4 [pR 9 g, pI (ii w), pI (ii (cnI (fun z => decide (A 20 (rot N tu z) = w)) n)), pI (ii n)] [] M X = some (.inl (some (pI (ii (cnI (fun z => decide (A 20 (rot N tu z) = w)) N.toNat)))), M, X) := by
  obtain ⟨a1, a2, a3, a4, a5, a6⟩ := h
  have l1 := hl.1
  intro m
  induction m with
  | zero =>
    intro n hn
    rw [q83_4, a5, ltF (by omega), show N.toNat = n by omega]
  | succ m ih =>
    intro n hn
    obtain ⟨r1, r2, r3⟩ := rot_in (z := n) a1 a2 (by omega) (by omega)
    obtain ⟨b1, b2⟩ := hb _ r1 r2
    have hc := (a6 _ r1 r2).1
    rw [r3] at hc
    have h := ih (n + 1) (by omega)
    rw [cnI_1, show ((n + 1 : Nat) : Int) = (n : Int) + 1 from rfl] at h
    rw [q83_4, a5, ltT (by omega), S12 (by omega) (by omega), kb1, q83_21, hc, ieq (by omega)]
    by_cases c : A 20 (rot N tu n) = w
    · rw [decide_eq_true c] at h
      rw [if_pos c, i_1, q83_30, ii_add, i_1, ii_add]
      exact h
    · rw [decide_eq_false c] at h
      rw [if_neg c, i_0, q83_30, ii_add, i_1, ii_add]
      exact h
def itmA (A : AT) : Int := cnI (fun q => decide (A 20 q ≠ -1)) (A 0 0).toNat
def resA (A : AT) : Int := cnI (fun q => decide (A 25 q ≠ -1)) (A 0 0).toNat
def itwA (A : AT) (w : Int) : Int := cnI (fun q => decide (A 20 q = w)) (A 0 0).toNat
theorem cnI_rot (hN : 0 < N) (h1 : 0 ≤ tu) (h2 : tu < N) (P : Int → Bool) : cnI (fun z => P (rot N tu z)) N.toNat = cnI P N.toNat := by
  have := cnI_r (n := N.toNat) (by omega) P tu.toNat (by omega)
  rw [show ((N.toNat : Nat) : Int) = N by omega, show ((tu.toNat : Nat) : Int) = tu by omega] at this
  exact this
theorem S76 (hs : STv M s A) (hl : StL s) (hi : INV A T) : ev true 76 0 0 [pR 9 (s + 1), p0, p0] [] M X = some (.inl (some (pI (ii (itmA A)))), M, X) := by
  obtain ⟨s1, ⟨tu, s2⟩, -⟩ := hs
  have g := hi.1
  have := S76l (X := X) s2 hl.1 (fun q a b => by have := hi.2.2.2.2.2.2 q a b; omega) (A 0 0).toNat 0 (by omega)
  rw [cnI_rot (by omega) s2.1 s2.2.1 (fun q => decide (A 20 q ≠ -1))] at this
  rw [q76_0, i_0]
  exact this
theorem S77 (hs : STv M s A) (hl : StL s) (hi : INV A T) : ev true 77 0 0 [pR 9 (s + 1), p0, p0] [] M X = some (.inl (some (pI (ii (resA A)))), M, X) := by
  obtain ⟨s1, ⟨tu, s2⟩, -⟩ := hs
  have g := hi.1
  have := S77l (X := X) s2 hl.1 (fun q a b => by have := hi.2.2.2.2.2.2 q a b; omega) (A 0 0).toNat 0 (by omega)
  rw [cnI_rot (by omega) s2.1 s2.2.1 (fun q => decide (A 25 q ≠ -1))] at this
  rw [q77_0, i_0]
  exact this
theorem S83 (hs : STv M s A) (hl : StL s) (hi : INV A T) (hw : -1 ≤ w ∧ w < 100) : ev true 83 0 0 [pR 9 (s + 1), pI (ii w), p0, p0] [] M X = some (.inl (some (pI (ii (itwA A w)))), M, X) := by
  obtain ⟨s1, ⟨tu, s2⟩, -⟩ := hs
  have g := hi.1
  have := S83l (X := X) s2 hl.1 hw (fun q a b => by have := hi.2.2.2.2.2.2 q a b; omega) (A 0 0).toNat 0 (by omega)
  rw [cnI_rot (by omega) s2.1 s2.2.1 (fun q => decide (A 20 q = w))] at this
  rw [q83_0, i_0]
  exact this
/-- the reference's counts -/
theorem S108 (h : WR M A T) : ev true 108 0 0 [pR 13 819, p0, p0] [] M X = some (.inl (some (pI (ii (resA A)))), M, X) := by
  obtain ⟨hr, hi, hT, hh⟩ := h
  have g := hi.1
  have t0 : rr M 0 = ii (A 0 0) := hr.1 0 (by omega) (by omega)
  have lp : ∀ (m n : Nat), (n : Int) + m = A 0 0 → ev true 108 0 4 [pR 13 819, pI (ii (cnI (fun q => decide (A 25 q ≠ -1)) n)), pI (ii n)] [] M X = some (.inl (some (pI (ii (resA A)))), M, X) := by
    intro m
    induction m with
    | zero =>
      intro n hn
      unfold resA
      rw [q108_4, S23, kb1, q108_9, t0, ltF (by omega), show (A 0 0).toNat = n by omega]
    | succ m ih =>
      intro n hn
      obtain ⟨p0, p1, p2, p34, p5⟩ := hr.2.2.2.2.2.1 n (by omega) (by omega)
      obtain ⟨y3, y4, y5, y6, y7, y8, y9, y10⟩ := hi.2.2.2.2.2.2 n (by omega) (by omega)
      have h := ih (n + 1) (by omega)
      rw [cnI_1, show ((n + 1 : Nat) : Int) = (n : Int) + 1 from rfl] at h
      rw [q108_4, S23, kb1, q108_9, t0, ltT (by omega), i_5, S24 (by omega), kb1, q108_19, p5, ii_m1, ieq (by omega)]
      by_cases c : A 25 n = -1
      · rw [decide_eq_false (fun z => z c)] at h
        rw [if_pos c, i_0, q108_28, ii_add, i_1, ii_add]
        exact h
      · rw [decide_eq_true c] at h
        rw [if_neg c, i_1, q108_28, ii_add, i_1, ii_add]
        exact h
  rw [q108_0, i_0]
  exact lp (A 0 0).toNat 0 (by omega)
theorem S107 (h : WR M A T) (hw : -1 ≤ w ∧ w < 100) : ev true 107 0 0 [pR 13 819, pI (ii w), p0, p0] [] M X = some (.inl (some (pI (ii (if w = -1 then itmA A else itwA A w)))), M, X) := by
  obtain ⟨hr, hi, hT, hh⟩ := h
  have g := hi.1
  have t0 : rr M 0 = ii (A 0 0) := hr.1 0 (by omega) (by omega)
  have e : (if w = -1 then itmA A else itwA A w) = cnI (fun q => if w = -1 then decide (A 20 q ≠ -1) else decide (A 20 q = w)) (A 0 0).toNat := by
    unfold itmA itwA
    by_cases c : w = -1
    · rw [if_pos c]; exact cnI_c fun y _ _ => by rw [if_pos c]
    · rw [if_neg c]; exact cnI_c fun y _ _ => by rw [if_neg c]
  rw [e]
  have lp : ∀ (m n : Nat), (n : Int) + m = A 0 0 → ev true 107 0 4 [pR 13 819, pI (ii w), pI (ii (cnI (fun q => if w = -1 then decide (A 20 q ≠ -1) else decide (A 20 q = w)) n)), pI (ii n)] [] M X = some (.inl (some (pI (ii (cnI (fun q => if w = -1 then decide (A 20 q ≠ -1) else decide (A 20 q = w)) (A 0 0).toNat)))), M, X) := by
    intro m
    induction m with
    | zero =>
      intro n hn
      rw [q107_4, S23, kb1, q107_9, t0, ltF (by omega), show (A 0 0).toNat = n by omega]
    | succ m ih =>
      intro n hn
      obtain ⟨p0, p1, p2, p34, p5⟩ := hr.2.2.2.2.2.1 n (by omega) (by omega)
      obtain ⟨y3, y4, y5, y6, y7, y8, y9, y10⟩ := hi.2.2.2.2.2.2 n (by omega) (by omega)
      have h := ih (n + 1) (by omega)
      rw [cnI_1, show ((n + 1 : Nat) : Int) = (n : Int) + 1 from rfl] at h
      rw [q107_4, S23, kb1, q107_9, t0, ltT (by omega), i_0, S24 (by omega), kb1, q107_19, p0, ii_m1, ieq (by omega)]
      by_cases c : A 20 n = -1
      · have hb : (if w = -1 then decide (A 20 n ≠ -1) else decide (A 20 n = w)) = false := by
          split
          · exact decide_eq_false (fun z => z c)
          · next z => exact decide_eq_false (fun y => z (y.symm.trans c))
        rw [hb] at h
        rw [if_pos c, q107_42, i_0, q107_43, ii_add, i_1, ii_add]
        exact h
      · rw [if_neg c, ieq (by omega)]
        by_cases d : w = -1
        · have hb : (if w = -1 then decide (A 20 n ≠ -1) else decide (A 20 n = w)) = true := by
            rw [if_pos d]; exact decide_eq_true c
          rw [hb] at h
          rw [if_pos d, q107_38, i_1, q107_43, ii_add, i_1, ii_add]
          exact h
        · rw [if_neg d, i_0, S24 (by omega), kb1, q107_34, p0, ieq (by omega)]
          by_cases c2 : A 20 n = w
          · have hb : (if w = -1 then decide (A 20 n ≠ -1) else decide (A 20 n = w)) = true := by
              rw [if_neg d]; exact decide_eq_true c2
            rw [hb] at h
            rw [if_pos c2, q107_38, i_1, q107_43, ii_add, i_1, ii_add]
            exact h
          · have hb : (if w = -1 then decide (A 20 n ≠ -1) else decide (A 20 n = w)) = false := by
              rw [if_neg d]; exact decide_eq_false c2
            rw [hb] at h
            rw [if_neg c2, q107_42, i_0, q107_43, ii_add, i_1, ii_add]
            exact h
  rw [q107_0, i_0]
  exact lp (A 0 0).toNat 0 (by omega)
end CNT
