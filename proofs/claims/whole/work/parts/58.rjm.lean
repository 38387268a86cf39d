/-! the reference's jams; who waits -/
section RJM
set_option maxRecDepth 100000
variable {u s p l t g n : Nat} {j k q e w c T tu nx v off sh i z y N m x : Int} {A A' : AT} {M M' : Mem} {X : PX} {f : Nat}
theorem S113l (h : WR M A T) (h1 : 0 ≤ e) (h2 : e < A 0 1) : ∀ (m : Nat) (c x : Int), c + m = A 0 0 → 0 ≤ c → 0 ≤ x → x < A 0 0 → ev true 113 0 9 [pR 13 819, pI (ii e), pI (ii c), pI (ii x)] [] M X = some (.inl (some (pI (ii (c + jmA A e m x)))), M, X) := by
  obtain ⟨hr, hi, hT, hh⟩ := h
  have g := hi.1
  have t0 : rr M 0 = ii (A 0 0) := hr.1 0 (by omega) (by omega)
  intro m
  induction m with
  | zero =>
    intro c x a1 a2 a3 a4
    rw [q113_9, S23, kb1, q113_14, t0, ltF (by omega), q113_62]
    show _ = some (Sum.inl (some (pI (ii (c + 0)))), M, X)
    rw [Int.add_zero]
  | succ m ih =>
    intro c x a1 a2 a3 a4
    obtain ⟨b1, b2⟩ := prv_in a3 a4
    obtain ⟨p0, p1, p2, p34, p5⟩ := hr.2.2.2.2.2.1 x a3 a4
    obtain ⟨y3, y4, y5, y6, y7, y8, y9, y10⟩ := hi.2.2.2.2.2.2 x a3 a4
    rw [q113_9, S23, kb1, q113_14, t0, ltT (by omega), i_0, S24 (by omega), kb1, q113_23, p0, ii_m1, ieq (by omega)]
    unfold jmA
    by_cases d : A 20 x = -1
    · rw [if_pos d, if_neg (fun z => z.1 d), q113_62, Int.add_zero]
    · obtain ⟨w0, w1, w2⟩ := hr.2.2.1 (A 20 x) (by omega) (by omega)
      obtain ⟨wi1, wi2, -⟩ := hi.2.2.1 (A 20 x) (by omega) (by omega)
      rw [if_neg d, i_0, S24 (by omega), kb1, q113_34, p0, i_0, S30 (by omega), kb1, q113_38, w0, ieq (by omega)]
      by_cases d2 : A 26 (A 20 x) = e
      · have em : (x + A 0 0 - 1) % A 0 0 = prv (A 0 0) x := by
          unfold prv
          by_cases hx : x = 0
          · rw [if_pos hx, hx, Int.emod_eq_of_lt (by omega) (by omega)]; omega
          · rw [if_neg hx, show x + A 0 0 - 1 = x - 1 + A 0 0 by omega, Int.add_emod_right, Int.emod_eq_of_lt (by omega) (by omega)]
        rw [if_pos d2, if_pos ⟨d, d2⟩, S23, kb1, q113_50, t0, i_1, ii_add, ii_add, ii_sub, S23, kb1, q113_57, t0, i_0, eqF (by omega), ii_div (by omega) (by omega) (by omega) (by omega), ii_mul, ii_sub, show x + A 0 0 - 1 - (x + A 0 0 - 1) / A 0 0 * A 0 0 = (x + A 0 0 - 1) % A 0 0 by rw [Int.mul_comm, Int.emod_def], em, ih (c + 1) _ (by omega) (by omega) b1 b2, show c + 1 + jmA A e m (prv (A 0 0) x) = c + (1 + jmA A e m (prv (A 0 0) x)) by omega]
      · rw [if_neg d2, if_neg (fun z => d2 z.2), q113_62, Int.add_zero]
theorem S113 (h : WR M A T) (h1 : 0 ≤ e) (h2 : e < A 0 1) : ev true 113 0 0 [pR 13 819, pI (ii e), p0, p0] [] M X = some (.inl (some (pI (ii (jamA A e)))), M, X) := by
  have g := h.2.1.1
  obtain ⟨x1, x2, -⟩ := h.2.1.2.1 e h1 h2
  obtain ⟨r0, -⟩ := h.1.2.1 e h1 (by omega)
  have := S113l (X := X) h h1 h2 (A 0 0).toNat 0 (A 30 e) (by omega) (by omega) x1 x2
  rw [Int.zero_add] at this
  rw [q113_0, i_0, S29 (by omega), kb1, r0, q113_8, this]
  rfl
theorem S188l (h : WR M A T) : ∀ (m n : Nat), (n : Int) + m = A 0 1 → ev true 188 0 4 [pR 13 819, pI (ii (lojA A n)), pI (ii n)] [] M X = some (.inl (some (pI (ii (lojA A (A 0 1).toNat)))), M, X) := by
  have g := h.2.1.1
  have t1 : M 820 1 = ii (A 0 1) := h.1.1 1 (by omega) (by omega)
  intro m
  induction m with
  | zero =>
    intro n hn
    rw [q188_4, i_1, inR (by omega), t1, ltF (by omega), show (A 0 1).toNat = n by omega]
  | succ m ih =>
    intro n hn
    have h1 := loj_in (A := A) (by omega) n
    have h2 := jam_in (A := A) (e := n) (by omega)
    have h9 := ih (n + 1) (by omega)
    have ep : (if lojA A n < jamA A n then ii (jamA A n) else ii (lojA A n)) = ii (lojA A (n + 1)) := by
      show _ = ii (if lojA A n < jamA A n then jamA A n else lojA A n)
      split <;> rfl
    rw [q188_4, i_1, inR (by omega), t1, ltT (by omega), S113 h (by omega) (by omega), kb1, q188_20, ilt (by omega), ep, q188_23, i_1, ii_add]
    exact h9
theorem S188 (h : WR M A T) : ev true 188 0 0 [pR 13 819, p0, p0] [] M X = some (.inl (some (pI (ii (lojA A (A 0 1).toNat)))), M, X) := by
  have g := h.2.1.1
  rw [q188_0, i_0]
  exact S188l h (A 0 1).toNat 0 (by omega)
/-- how many wait: the ones of the ware w at the first sides -/
def wtq (A : AT) (w j : Int) (n : Nat) : Int := cnI (fun k => decide (A 60 (20 * j + k) = w)) n
def wtS (A : AT) (w : Int) : Nat → Int
  | 0 => 0
  | n + 1 => wtS A w n + wtq A w n (A 44 n).toNat
theorem S166q (h : QV M u A) (hl : QuL u) (hw : 0 ≤ w ∧ w < 100) (hb : ∀ k, 0 ≤ k → k < A 44 j → 0 ≤ A 60 (20 * j + k) ∧ A 60 (20 * j + k) < 100) (h1 : 0 ≤ j) (h2 : j < 6) {b : Int} : ∀ (m n : Nat), (n : Int) + m = A 44 j → ∃ z, ev true 166 0 13 [pR 10 u, pI (ii w), pI (ii (b + wtq A w j n)), pI (ii j), pI (ii n)] [] M X = ev true 166 0 4 [pR 10 u, pI (ii w), pI (ii (b + wtq A w j (A 44 j).toNat)), pI (ii (j + 1)), z] [] M X := by
  obtain ⟨q1, q2, q3, q4⟩ := h j h1 h2
  have l5 := hl.2.2
  intro m
  induction m with
  | zero =>
    intro n hn
    refine ⟨pI (ii n), ?_⟩
    rw [q166_13, S12 h1 (by omega), kb1, q166_23, q3, ltF (by omega), i_1, ii_add, show (A 44 j).toNat = n by omega]
  | succ m ih =>
    intro n hn
    obtain ⟨z, h9⟩ := ih (n + 1) (by omega)
    obtain ⟨b1, b2⟩ := hb n (by omega) (by omega)
    refine ⟨z, ?_⟩
    unfold wtq at h9 ⊢
    rw [cnI_1, show ((n + 1 : Nat) : Int) = (n : Int) + 1 from rfl] at h9
    rw [q166_13, S12 h1 (by omega), kb1, q166_23, q3, ltT (by omega), S93 h hl h1 h2 (by omega) (by omega), kb1, q166_34, ieq (by omega)]
    by_cases d : A 60 (20 * j + n) = w
    · rw [decide_eq_true d] at h9
      rw [if_pos d, i_1, q166_43, ii_add, i_1, ii_add, Int.add_assoc]
      exact h9
    · rw [decide_eq_false d] at h9
      rw [if_neg d, i_0, q166_43, ii_add, i_1, ii_add, Int.add_assoc]
      exact h9
end RJM
