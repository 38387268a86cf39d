/-! jams -/
section JAM
set_option maxRecDepth 100000
variable {u s p l t g n : Nat} {j k q e w c T tu nx v off sh i z y N m x : Int} {A A' : AT} {M M' : Mem} {X : PX} {f : Nat}
/-- how many places from x backwards hold wares of the exit e -/
def jmA (A : AT) (e : Int) : Nat → Int → Int
  | 0, _ => 0
  | m + 1, x => if A 20 x ≠ -1 ∧ A 26 (A 20 x) = e then 1 + jmA A e m (prv (A 0 0) x) else 0
def jamA (A : AT) (e : Int) : Int := jmA A e (A 0 0).toNat (A 30 e)
theorem jm_in : ∀ (m : Nat) (x : Int), 0 ≤ jmA A e m x ∧ jmA A e m x ≤ m
  | 0, _ => ⟨Int.le_refl _, Int.le_refl _⟩
  | m + 1, x => by
    have := jm_in m (prv (A 0 0) x)
    unfold jmA
    split <;> omega
theorem prv_in (h1 : 0 ≤ x) (h2 : x < N) : 0 ≤ prv N x ∧ prv N x < N := by unfold prv; split <;> omega
theorem S210l (h : WS M p s A T) (h1 : 0 ≤ e) (h2 : e < A 0 1) : ∀ (m : Nat) (c x : Int), c + m = A 0 0 → 0 ≤ c → 0 ≤ x → x < A 0 0 → ev true 210 0 12 [pR 6 s, pR 5 p, pI (ii e), pI (ii x), pI (ii c)] [] M X = some (.inl (some (pI (ii (c + jmA A e m x)))), M, X) := by
  obtain ⟨hp, hpl, hs, hl, hi, hT, hd⟩ := h
  have g := hi.1
  have e0 := hp.1
  intro m
  induction m with
  | zero =>
    intro c x a1 a2 a3 a4
    rw [q210_12, e0, ltF (by omega), q210_54]
    show _ = some (Sum.inl (some (pI (ii (c + 0)))), M, X)
    rw [Int.add_zero]
  | succ m ih =>
    intro c x a1 a2 a3 a4
    obtain ⟨b1, b2⟩ := prv_in a3 a4
    rw [q210_12, e0, ltT (by omega), S156 hp hpl hs hl hi a3 a4 h1 (by omega), kb1, q210_28, i_0, bIT]
    unfold jmA
    by_cases d : A 20 x ≠ -1 ∧ A 26 (A 20 x) = e
    · have ep : (if 0 < x then ev true 210 0 50 [pR 6 s, pR 5 p, pI (ii e), pI (ii x), pI (ii (c + 1))] [pI (ii (x - 1))] M X else ev true 210 0 50 [pR 6 s, pR 5 p, pI (ii e), pI (ii x), pI (ii (c + 1))] [pI (ii (A 0 0 - 1))] M X) = ev true 210 0 50 [pR 6 s, pR 5 p, pI (ii e), pI (ii x), pI (ii (c + 1))] [pI (ii (prv (A 0 0) x))] M X := by
        unfold prv
        by_cases hx : x = 0
        · rw [if_neg (by omega), if_pos hx]
        · rw [if_pos (by omega), if_neg hx]
      rw [decide_eq_true d, cond_true, if_pos d, e0, i_1, ii_sub, ii_add, ii_sub, ilt (by omega), ep, q210_50, ih (c + 1) _ (by omega) (by omega) b1 b2, show c + 1 + jmA A e m (prv (A 0 0) x) = c + (1 + jmA A e m (prv (A 0 0) x)) by omega]
    · rw [decide_eq_false d, cond_false, if_neg d, q210_54, Int.add_zero]
theorem S210 (h : WS M p s A T) (h1 : 0 ≤ e) (h2 : e < A 0 1) : ev true 210 0 0 [pR 6 s, pR 5 p, pI (ii e), p0, p0] [] M X = some (.inl (some (pI (ii (jamA A e)))), M, X) := by
  have hp := h.1
  have hpl := h.2.1
  have g := h.2.2.2.2.1.1
  obtain ⟨x1, x2, -⟩ := h.2.2.2.2.1.2.1 e h1 h2
  have l1 : rl (p + 1) = 6 := hpl.1
  have := S210l (X := X) h h1 h2 (A 0 0).toNat 0 (A 30 e) (by omega) (by omega) x1 x2
  rw [Int.zero_add] at this
  rw [q210_0, S12 h1 (by omega), kb1, hp.2.2.2.2.2.2.1 e h1 h2, q210_8, i_0, this]
  rfl
def lojA (A : AT) : Nat → Int
  | 0 => 0
  | n + 1 => if lojA A n < jamA A n then jamA A n else lojA A n
theorem jam_in (hN : 0 ≤ A 0 0 ∧ A 0 0 ≤ 40) : 0 ≤ jamA A e ∧ jamA A e ≤ 40 := by
  have := jm_in (A := A) (e := e) (A 0 0).toNat (A 30 e)
  unfold jamA
  omega
theorem loj_in (hN : 0 ≤ A 0 0 ∧ A 0 0 ≤ 40) : ∀ n : Nat, 0 ≤ lojA A n ∧ lojA A n ≤ 40
  | 0 => ⟨Int.le_refl _, by show (0 : Int) ≤ 40; omega⟩
  | n + 1 => by
    have h1 := loj_in hN n
    have h2 := jam_in (A := A) (e := n) hN
    unfold lojA
    split <;> omega
theorem S234l (h : WS M p s A T) : ∀ (m n : Nat), (n : Int) + m = A 0 1 → ev true 234 0 4 [pR 6 s, pR 5 p, pI (ii (lojA A n)), pI (ii n)] [] M X = some (.inl (some (pI (ii (lojA A (A 0 1).toNat)))), M, X) := by
  have g := h.2.2.2.2.1.1
  have e1 := h.1.2.1
  intro m
  induction m with
  | zero =>
    intro n hn
    rw [q234_4, e1, ltF (by omega), show (A 0 1).toNat = n by omega]
  | succ m ih =>
    intro n hn
    have h1 := loj_in (A := A) (by omega) n
    have h2 := jam_in (A := A) (e := n) (by omega)
    have h9 := ih (n + 1) (by omega)
    have ep : (if lojA A n < jamA A n then ii (jamA A n) else ii (lojA A n)) = ii (lojA A (n + 1)) := by
      show _ = ii (if lojA A n < jamA A n then jamA A n else lojA A n)
      split <;> rfl
    rw [q234_4, e1, ltT (by omega), S210 h (by omega) (by omega), kb1, q234_19, ilt (by omega), ep, q234_22, i_1, ii_add]
    exact h9
theorem S234 (h : WS M p s A T) : ev true 234 0 0 [pR 6 s, pR 5 p, p0, p0] [] M X = some (.inl (some (pI (ii (lojA A (A 0 1).toNat)))), M, X) := by
  have g := h.2.2.2.2.1.1
  rw [q234_0, i_0]
  exact S234l h (A 0 1).toNat 0 (by omega)
end JAM
