/-! who waits as long -/
section ISW
set_option maxRecDepth 100000
variable {u s p v l t g n : Nat} {j k q e w c T T' tu tv nx off sh i z y N : Int} {A B A' : AT} {M M' : Mem} {X : PX} {f : Nat}
def wlE (A B : AT) (j : Int) : Prop := ∀ k, 0 ≤ k → k < A 44 j → A 0 5 - A 61 (20 * j + k) = B 0 5 - B 61 (20 * j + k)
theorem S161 (hp : PLv M p A) (hs : STv M s A) (hs' : STv M u B) (hl : StL s) (hu : StL u) (hi : INV A T) (hi' : INV B T') (hT : T < 1000000) (hT' : T' < 1000000) (h3 : B 0 3 = A 0 3) (h44 : ∀ j, 0 ≤ j → j < A 0 3 → A 44 j = B 44 j) : ∃ r : Bool, ev true 161 0 0 [pR 6 s, pR 6 u, pR 5 p, p0, p0] [] M X = some (.inl (some (pI (bI r))), M, X) ∧ (r = true ↔ ∀ j, 0 ≤ j → j < A 0 3 → wlE A B j) := by
  have g := hi.1
  have g' := hi'.1
  have e3 := hp.2.2.2.1
  have l19 : rl (s + 19) = 6 := hl.2.2.2.1
  have hq : QuL (s + 14) := ⟨hl.2.1, hl.2.2.1, hl.2.2.2.1⟩
  have hq' : QuL (u + 14) := ⟨hu.2.1, hu.2.2.1, hu.2.2.2.1⟩
  have s1 := hs.1
  have s1' := hs'.1
  have s3 := hs.2.2.1
  have s3' := hs'.2.2.1
  have lq : ∀ (m : Nat) (j k : Int), k + m = A 44 j → 0 ≤ k → 0 ≤ j → j < A 0 3 → (∃ z, ev true 161 0 13 [pR 6 s, pR 6 u, pR 5 p, pI (ii j), pI (ii k)] [] M X = ev true 161 0 2 [pR 6 s, pR 6 u, pR 5 p, pI (ii (j + 1)), z] [] M X ∧ ∀ y, k ≤ y → y < A 44 j → A 0 5 - A 61 (20 * j + y) = B 0 5 - B 61 (20 * j + y)) ∨ (ev true 161 0 13 [pR 6 s, pR 6 u, pR 5 p, pI (ii j), pI (ii k)] [] M X = some (.inl (some (pI (bI false))), M, X) ∧ ¬ ∀ y, k ≤ y → y < A 44 j → A 0 5 - A 61 (20 * j + y) = B 0 5 - B 61 (20 * j + y)) := by
    intro m
    induction m with
    | zero =>
      intro j k h4 h5 h6 h7
      have c3 := (s3 j h6 (by omega)).2.2.1
      have c4 := (s3 j h6 (by omega)).2.1
      refine Or.inl ⟨pI (ii k), ?_, fun y a b => by omega⟩
      rw [q161_13, S12 h6 (by omega), kb1, q161_26, show cl M (s + 19) j = ii (A 44 j) from c3, ltF (by omega), i_1, ii_add]
    | succ m ih =>
      intro j k h4 h5 h6 h7
      have c3 := (s3 j h6 (by omega)).2.2.1
      have c4 := (s3 j h6 (by omega)).2.1
      have hj := h44 j h6 h7
      obtain ⟨-, -, -, -, -, -, -, -, -, -, -, -, d13⟩ := hi.2.2.2.1 j h6 h7
      obtain ⟨-, -, -, -, -, -, -, -, -, -, -, -, d13'⟩ := hi'.2.2.2.1 j h6 (by omega)
      obtain ⟨x1, x2, x3, x4⟩ := d13 k h5 (by omega)
      obtain ⟨y1, y2, y3, y4⟩ := d13' k h5 (by omega)
      rw [q161_13, S12 h6 (by omega), kb1, q161_26, show cl M (s + 19) j = ii (A 44 j) from c3, ltT (by omega), S95 s3 hq h6 (by omega) h5 (by omega), kb1, q161_43, s1, s1', ii_sub, S95 s3' hq' h6 (by omega) h5 (by omega), kb1, q161_58, ii_sub, ieq (by omega)]
      by_cases c : A 0 5 - A 61 (20 * j + k) = B 0 5 - B 61 (20 * j + k)
      · rw [if_pos c, i_1, ii_add]
        rcases ih j (k + 1) (by omega) (by omega) h6 h7 with ⟨z, r1, r2⟩ | ⟨r1, r2⟩
        · refine Or.inl ⟨z, r1, fun y a b => ?_⟩
          rcases Int.lt_or_le k y with e | e
          · exact r2 y (by omega) b
          · rw [show y = k by omega]; exact c
        · exact Or.inr ⟨r1, fun h => r2 fun y a b => h y (by omega) b⟩
      · refine Or.inr ⟨?_, fun h => c (h k (Int.le_refl _) (by omega))⟩
        rw [if_neg c, i_0, rk0]; rfl
  have lp : ∀ (m : Nat) (j : Int) (z : PV), j + m = A 0 3 → 0 ≤ j → ∃ r : Bool, ev true 161 0 2 [pR 6 s, pR 6 u, pR 5 p, pI (ii j), z] [] M X = some (.inl (some (pI (bI r))), M, X) ∧ (r = true ↔ ∀ y, j ≤ y → y < A 0 3 → wlE A B y) := by
    intro m
    induction m with
    | zero =>
      intro j z h4 h5
      refine ⟨true, ?_, fun _ y a b => by omega, fun _ => rfl⟩
      rw [q161_2, e3, ltF (by omega), i_1, rk1]; rfl
    | succ m ih =>
      intro j z h4 h5
      have c4 := (s3 j h5 (by omega)).1
      rw [q161_2, e3, ltT (by omega), i_0]
      rcases lq (A 44 j).toNat j 0 (by omega) (Int.le_refl _) h5 (by omega) with ⟨z', r1, r2⟩ | ⟨r1, r2⟩
      · obtain ⟨r, t1, t2⟩ := ih (j + 1) z' (by omega) (by omega)
        refine ⟨r, by rw [r1, t1], t2.trans ⟨fun h y a b => ?_, fun h y a b => h y (by omega) b⟩⟩
        rcases Int.lt_or_le j y with e | e
        · exact h y (by omega) b
        · rw [show y = j by omega]; exact r2
      · exact ⟨false, r1, fun z => absurd z (by decide), fun h => absurd (h j (Int.le_refl _) (by omega)) r2⟩
  rw [q161_0, i_0]
  exact lp (A 0 3).toNat 0 p0 (by omega) (Int.le_refl _)
end ISW
