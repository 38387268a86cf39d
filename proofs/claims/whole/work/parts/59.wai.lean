/-! who waits, on both sides -/
section WAI
set_option maxRecDepth 100000
variable {u s p l t g n : Nat} {j k q e w c T tu nx v off sh i z y N m x : Int} {A A' : AT} {M M' : Mem} {X : PX} {f : Nat}
theorem S166l (h : QV M u A) (hl : QuL u) (hi : INV A T) (hw : 0 ≤ w ∧ w < 100) : ∀ (m n : Nat) (z : PV), n + m = 6 → ev true 166 0 4 [pR 10 u, pI (ii w), pI (ii (wtS A w n)), pI (ii n), z] [] M X = some (.inl (some (pI (ii (wtS A w 6)))), M, X) := by
  intro m
  induction m with
  | zero =>
    intro n z hn
    rw [q166_4, i_6, ltF (by omega), show n = 6 by omega]
  | succ m ih =>
    intro n z hn
    have g := hi.1
    have hb : ∀ k, 0 ≤ k → k < A 44 n → 0 ≤ A 60 (20 * n + k) ∧ A 60 (20 * n + k) < 100 := fun k a b => by
      rcases Int.lt_or_le (n : Int) (A 0 3) with h3 | h3
      · obtain ⟨-, -, -, -, -, -, -, -, -, -, -, -, d13⟩ := hi.2.2.2.1 n (by omega) h3
        have := d13 k a b
        omega
      · have := hi.2.2.2.2.1 n h3 (by omega)
        omega
    have h44 : 0 ≤ A 44 n := (h n (by omega) (by omega)).1
    obtain ⟨z', h9⟩ := S166q (X := X) (b := wtS A w n) h hl hw hb (by omega) (by omega) (A 44 n).toNat 0 (by omega)
    have h9 : ev true 166 0 13 [pR 10 u, pI (ii w), pI (ii (wtS A w n + 0)), pI (ii n), pI (ii 0)] [] M X = _ := h9
    rw [Int.add_zero] at h9
    rw [q166_4, i_6, ltT (by omega), i_0, h9]
    exact ih (n + 1) z' (by omega)
theorem wtS_out (hi : INV A T) (h3 : A 0 3 ≤ n) : ∀ m : Nat, n + m ≤ 6 → wtS A w (n + m) = wtS A w n
  | 0, _ => rfl
  | m + 1, h => by
    have h9 := wtS_out hi h3 m (by omega)
    have h44 : A 44 ((n + m : Nat) : Int) = 0 := hi.2.2.2.2.1 _ (by omega) (by omega)
    show wtS A w (n + m) + wtq A w ((n + m : Nat) : Int) (A 44 ((n + m : Nat) : Int)).toNat = _
    rw [h9, h44]
    show wtS A w n + 0 = _
    rw [Int.add_zero]
def waiA (A : AT) (w : Int) : Int := wtS A w (A 0 3).toNat
theorem S166 (hs : STv M s A) (hl : StL s) (hi : INV A T) (hw : 0 ≤ w ∧ w < 100) : ev true 166 0 0 [pR 10 (s + 14), pI (ii w), p0, p0, p0] [] M X = some (.inl (some (pI (ii (waiA A w)))), M, X) := by
  have g := hi.1
  have hq := hs.2.2.1
  obtain ⟨l0, l15, l17, l19, -⟩ := hl
  have := S166l (X := X) hq ⟨l15, l17, l19⟩ hi hw 6 0 p0 (by omega)
  have e : waiA A w = wtS A w 6 := by
    unfold waiA
    have := wtS_out (w := w) hi (n := (A 0 3).toNat) (by omega) (6 - (A 0 3).toNat) (by omega)
    rw [show (A 0 3).toNat + (6 - (A 0 3).toNat) = 6 by omega] at this
    exact this.symm
  rw [q166_0, i_0, e]
  exact this
/-- the reference's: of the ware w, or of all where w = -1 -/
def wrq (A : AT) (w j : Int) (n : Nat) : Int := cnI (fun k => decide (w = -1 ∨ A 60 (20 * j + k) = w)) n
def wrS (A : AT) (w : Int) : Nat → Int
  | 0 => 0
  | n + 1 => wrS A w n + wrq A w n (A 44 n).toNat
theorem wr_wt (hw : w ≠ -1) : ∀ n : Nat, wrS A w n = wtS A w n
  | 0 => rfl
  | n + 1 => by
    unfold wrS wtS
    rw [wr_wt hw n]
    congr 1
    unfold wrq wtq
    refine cnI_c fun y _ _ => ?_
    by_cases c : A 60 (20 * (n : Int) + y) = w
    · rw [decide_eq_true (Or.inr c), decide_eq_true c]
    · rw [decide_eq_false (fun z => z.elim hw c), decide_eq_false c]
theorem wr_all : ∀ n : Nat, (∀ j, 0 ≤ j → j < n → 0 ≤ A 44 j) → wrS A (-1) n = smI (fun j => A 44 j) n
  | 0, _ => rfl
  | n + 1, h => by
    have h1 := wr_all n (fun j a b => h j a (by omega))
    have h2 := h n (by omega) (by omega)
    unfold wrS smI
    rw [h1]
    congr 1
    have : ∀ m : Nat, wrq A (-1) n m = m := by
      intro m
      unfold wrq
      induction m with
      | zero => rfl
      | succ m ih =>
        rw [cnI_1, ih, decide_eq_true (Or.inl rfl)]
        rfl
    rw [this]
    omega
theorem S109q (h : WR M A T) (hw : -1 ≤ w ∧ w < 100) (h1 : 0 ≤ j) (h2 : j < A 0 3) {b : Int} : ∀ (m n : Nat), (n : Int) + m = A 44 j → ∃ z, ev true 109 0 17 [pR 13 819, pI (ii w), pI (ii (b + wrq A w j n)), pI (ii j), pI (ii n)] [] M X = ev true 109 0 4 [pR 13 819, pI (ii w), pI (ii (b + wrq A w j (A 44 j).toNat)), pI (ii (j + 1)), z] [] M X := by
  obtain ⟨hr, hi, hT, hh⟩ := h
  have g := hi.1
  obtain ⟨d1, d2, d3, d4, d5, d6, d7, d8, d9, d10, d11, d12, d13⟩ := hi.2.2.2.1 j h1 h2
  obtain ⟨v0, v1, v2, v3, v4, v5, v6, v7, v8, v9⟩ := hr.2.2.2.1 j h1 (by omega)
  intro m
  induction m with
  | zero =>
    intro n hn
    refine ⟨pI (ii n), ?_⟩
    rw [q109_17, i_4, S25 (by omega), kb1, q109_25, v4, ltF (by omega), i_1, ii_add, show (A 44 j).toNat = n by omega]
  | succ m ih =>
    intro n hn
    obtain ⟨z, h9⟩ := ih (n + 1) (by omega)
    obtain ⟨b1, b2, -⟩ := d13 n (by omega) (by omega)
    obtain ⟨q0, -⟩ := hr.2.2.2.2.2.2.2.1 j n h1 (by omega) (by omega) (by omega)
    refine ⟨z, ?_⟩
    unfold wrq at h9 ⊢
    rw [cnI_1, show ((n + 1 : Nat) : Int) = (n : Int) + 1 from rfl] at h9
    rw [q109_17, i_4, S25 (by omega), kb1, q109_25, v4, ltT (by omega), ii_m1, ieq (by omega)]
    by_cases d0 : w = -1
    · rw [decide_eq_true (Or.inl d0)] at h9
      rw [if_pos d0, q109_50, i_1, q109_55, ii_add, i_1, ii_add, Int.add_assoc]
      exact h9
    · rw [if_neg d0, S26, kb1, q109_45, inR (by omega), rr_i M (by omega), q0, ieq (by omega)]
      by_cases d : A 60 (20 * j + n) = w
      · rw [decide_eq_true (Or.inr d)] at h9
        rw [if_pos d, q109_50, i_1, q109_55, ii_add, i_1, ii_add, Int.add_assoc]
        exact h9
      · rw [decide_eq_false (fun z => z.elim d0 d)] at h9
        rw [if_neg d, i_0, q109_55, ii_add, i_1, ii_add, Int.add_assoc]
        exact h9
theorem S109 (h : WR M A T) (hw : -1 ≤ w ∧ w < 100) : ev true 109 0 0 [pR 13 819, pI (ii w), p0, p0, p0] [] M X = some (.inl (some (pI (ii (wrS A w (A 0 3).toNat)))), M, X) := by
  have g := h.2.1.1
  have t3 : M 820 3 = ii (A 0 3) := h.1.1 3 (by omega) (by omega)
  have lp : ∀ (m n : Nat) (z : PV), (n : Int) + m = A 0 3 → ev true 109 0 4 [pR 13 819, pI (ii w), pI (ii (wrS A w n)), pI (ii n), z] [] M X = some (.inl (some (pI (ii (wrS A w (A 0 3).toNat)))), M, X) := by
    intro m
    induction m with
    | zero =>
      intro n z hn
      rw [q109_4, i_3, inR (by omega), t3, ltF (by omega), show (A 0 3).toNat = n by omega]
    | succ m ih =>
      intro n z hn
      obtain ⟨d1, d2, d3, d4, d5, d6, d7, d8, d9, -⟩ := h.2.1.2.2.2.1 n (by omega) (by omega)
      obtain ⟨z', h9⟩ := S109q (X := X) (b := wrS A w n) h hw (j := n) (by omega) (by omega) (A 44 n).toNat 0 (by omega)
      have h9 : ev true 109 0 17 [pR 13 819, pI (ii w), pI (ii (wrS A w n + 0)), pI (ii n), pI (ii 0)] [] M X = _ := h9
      rw [Int.add_zero] at h9
      rw [q109_4, i_3, inR (by omega), t3, ltT (by omega), i_0, h9]
      exact ih (n + 1) z' (by omega)
  rw [q109_0, i_0]
  exact lp (A 0 3).toNat 0 p0 (by omega)
end WAI
