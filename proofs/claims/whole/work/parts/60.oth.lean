/-! rows of the log, running on till one is lost, copies of the reference's rows -/
section OTH
set_option maxRecDepth 100000
variable {u s p l t g n : Nat} {j k q e w c T tu nx v off sh i z y N m x a d : Int} {A A' : AT} {M M' : Mem} {X : PX} {f : Nat}
theorem S97 (hs : STv M s A) (hl : StL s) (h1 : 0 ≤ a) (h2 : a < A 0 8) (h3 : 0 ≤ k) (h4 : k < 7) : ev true 97 0 0 [pR 11 (s + 47), pI (ii a), pI (ii k), p0] [] M X = some (.inl (some (pI (ii (A 70 (7 * a + k))))), M, X) := by
  obtain ⟨s1, s2, s3, ⟨nx, b1, b2, b3, b4, b5, b6, b7⟩, -⟩ := hs
  have l48 : rl (s + 47 + 1) = 280 := hl.2.2.2.2.2.2.2.2.2.2.2.2.2.2.2.2.2
  have hb := b7 a k h1 h2 h3 h4
  have hr : 0 ≤ lgR nx a ∧ lgR nx a < 40 := by unfold lgR; split <;> omega
  rw [q97_0, b3, i_1, ii_sub, ii_sub, i_0, ilt (by omega), i_40, ii_add]
  have e : (if nx - 1 - a < 0 then ev true 97 0 25 [pR 11 (s + 47), pI (ii a), pI (ii k), pI (ii (nx - 1 - a))] [pI (ii (nx - 1 - a + 40)), pR 8 (s + 47 + 1)] M X else ev true 97 0 25 [pR 11 (s + 47), pI (ii a), pI (ii k), pI (ii (nx - 1 - a))] [pI (ii (nx - 1 - a)), pR 8 (s + 47 + 1)] M X) = ev true 97 0 25 [pR 11 (s + 47), pI (ii a), pI (ii k), pI (ii (nx - 1 - a))] [pI (ii (lgR nx a)), pR 8 (s + 47 + 1)] M X := by
    unfold lgR
    split <;> rfl
  rw [e, q97_25, i_7, ii_mul, ii_add, Int.mul_comm (lgR nx a) 7, S12 (by omega) (by omega), kb1, hb, q97_33]
/-- at most so many ticks on, and no more once one is lost at the side j -/
noncomputable def rtlA (off j : Int) (x : Int) : Nat → AT → AT
  | 0, A => A
  | n + 1, A => if ii (A 48 j) = ii x then rtlA off j x n (stepA off A) else A
theorem S38l {a b : Nat} (h1 : ln a = n) (h2 : ln b = n) (hab : a ≠ b) : ∀ (m i : Nat) (M1 : Mem), i + m = n → (∀ c, c ≠ a → M1 c = M c) → (∀ k, M1 a k = if k < i then M b k else M a k) → ∃ M2, ev true 38 0 2 [pR 14 a, pR 14 b, pI (ii i)] [] M1 X = some (.inl none, M2, X) ∧ (∀ c, c ≠ a → M2 c = M c) ∧ ∀ k, M2 a k = if k < n then M b k else M a k := by
  have h9 := ln_lt a
  intro m
  induction m with
  | zero =>
    intro i M1 h3 h4 h5
    have hi : i = n := by omega
    subst hi
    refine ⟨M1, ?_, h4, h5⟩
    rw [q38_2, h1, ii_of, ltF (by omega)]
  | succ m ih =>
    intro i M1 h3 h4 h5
    obtain ⟨M2, t1, t2, t3⟩ := ih (i + 1) (upM M1 a i (M1 b i)) (by omega) (fun c hc => by rw [← h4 c hc]; funext y; exact up_n hc) (fun k => by
      rw [up_s]
      by_cases hk : k = i
      · rw [if_pos hk, if_pos (by omega), h4 b (fun z => hab z.symm), hk]
      · rw [if_neg hk, h5 k]
        by_cases hc : k < i
        · rw [if_pos hc, if_pos (by omega)]
        · rw [if_neg hc, if_neg (by omega)])
    refine ⟨M2, ?_, t2, t3⟩
    rw [q38_2, h1, ii_of, ltT (by omega), inbT (by rw [h2]; omega), inbT (by omega), ii_nat (by omega) (by omega), i_1, ii_add]
    exact t1
/-- a row of the reference is copied -/
theorem S38 {a b : Nat} (h1 : ln a = n) (h2 : ln b = n) (hab : a ≠ b) : ∃ M', ev true 38 0 0 [pR 14 a, pR 14 b, p0] [] M X = some (.inl none, M', X) ∧ (∀ c, c ≠ a → M' c = M c) ∧ ∀ k, M' a k = if k < n then M b k else M a k := by
  obtain ⟨M', t1, t2, t3⟩ := S38l (M := M) (X := X) h1 h2 hab n 0 M (by omega) (fun _ _ => rfl) (fun k => by rw [if_neg (by omega)])
  exact ⟨M', by rw [q38_0, i_0]; exact t1, t2, t3⟩
theorem S252l (h1 : 0 ≤ j) (h2 : j < 6) {n : Int} (hn : n < 1000000) (ho2 : -1 ≤ off ∧ off < 100) : ∀ (m : Nat) (i : Int) (A : AT) (M : Mem) (T : Int), i + m = n → 0 ≤ i → T + m < 1000000 → M s 17 = ii off → WT M p s A T → ∃ M' T', ev true 252 0 13 [pR 6 s, pR 5 p, pI (ii j), pI (ii n), pI (ii x), pI (ii i)] [] M X = some (.inl none, M', X) ∧ WT M' p s (rtlA off j x m A) T' ∧ T' ≤ T + m ∧ FrS p s M M' := by
  intro m
  induction m with
  | zero =>
    intro i A M T h3 h4 h5 ho h
    exact ⟨M, T, by rw [q252_13, ltF (by omega), q252_43], h, by omega, FrS.rf⟩
  | succ m ih =>
    intro i A M T h3 h4 h5 ho h
    have l35 : rl (s + 35) = 6 := by
      obtain ⟨-, -, -, -, -, -, -, -, -, -, -, l35, -⟩ := h.1.2.2.2.1
      exact l35
    have r48 : cl M (s + 35) j = ii (A 48 j) := by
      obtain ⟨-, -, -, -, -, -, -, -, -, -, -, s12, -⟩ := h.1.2.2.1
      exact s12 j h1 h2
    rw [q252_13, ltT (by omega), S12 h1 (by omega), kb1, q252_27, r48]
    unfold rtlA
    by_cases c : ii (A 48 j) = ii x
    · obtain ⟨M1, a1, a2, a3⟩ := S233 (X := X) h (by omega) ho ho2
      obtain ⟨M2, T2, b1, b2, b3, b4⟩ := ih (i + 1) (stepA off A) M1 (T + 1) (by omega) (by omega) (by omega) (by rw [a3.2]; exact ho) a2
      refine ⟨M2, T2, ?_, ?_, by omega, a3.tr b4⟩
      · rw [if_pos c, a1, kb0, q252_37, i_1, ii_add, b1]
      · rw [if_pos c]; exact b2
    · refine ⟨M, T, ?_, ?_, by omega, FrS.rf⟩
      · rw [if_neg c, q252_43]
      · rw [if_neg c]; exact h
theorem S252 {n : Nat} (h : WT M p s A T) (h1 : 0 ≤ j) (h2 : j < 6) (hT : T + n < 1000000) (hn : n < 1000000) (ho : M s 17 = ii off) (ho2 : -1 ≤ off ∧ off < 100) : ∃ M' T', ev true 252 0 0 [pR 6 s, pR 5 p, pI (ii j), pI (ii n), p0, p0] [] M X = some (.inl none, M', X) ∧ WT M' p s (rtlA off j (A 48 j) n A) T' ∧ T' ≤ T + n ∧ FrS p s M M' := by
  have l35 : rl (s + 35) = 6 := by
    obtain ⟨-, -, -, -, -, -, -, -, -, -, -, l35, -⟩ := h.1.2.2.2.1
    exact l35
  have r48 : cl M (s + 35) j = ii (A 48 j) := by
    obtain ⟨-, -, -, -, -, -, -, -, -, -, -, s12, -⟩ := h.1.2.2.1
    exact s12 j h1 h2
  obtain ⟨M', T', a1, a2, a3, a4⟩ := S252l (X := X) (x := A 48 j) (n := n) h1 h2 (by omega) ho2 n 0 A M T (by omega) (by omega) hT ho h
  exact ⟨M', T', by rw [q252_0, S12 h1 (by omega), kb1, r48, q252_8, i_0, a1], a2, a3, a4⟩
end OTH
