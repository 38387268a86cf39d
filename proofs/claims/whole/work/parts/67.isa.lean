/-! states that are alike -/
section ISA
set_option maxRecDepth 100000
variable {u s p v l t g n : Nat} {j k q e w c T T' tu tv nx off sh i z y N : Int} {A B A' : AT} {M M' : Mem} {X : PX} {f : Nat}
def iexE (A B : AT) (e : Int) : Prop := A 32 e = B 32 e ∧ mayA A e = mayA B e
def isdE (A B : AT) (j : Int) : Prop := ii (A 45 j) = ii (B 45 j) ∧ quE A B j
def ISE (A B : AT) : Prop := (∀ q, 0 ≤ q → q < A 0 0 → rgE A B q) ∧ (∀ e, 0 ≤ e → e < A 0 1 → iexE A B e) ∧ (∀ c, 0 ≤ c → c < A 0 4 → dueA A c = dueA B c) ∧ (∀ j, 0 ≤ j → j < A 0 3 → isdE A B j) ∧ (useA A 5 = true → ∀ j, 0 ≤ j → j < A 0 3 → wlE A B j)
theorem may_in (hi : INV A T) (hT : T < 1000000) (h1 : 0 ≤ e) (h2 : e < A 0 1) : 0 ≤ mayA A e ∧ mayA A e < 2000000 := by
  have g := hi.1
  obtain ⟨x1, x2, x3, x4, x5, x6, x7, x8, x9, x10⟩ := hi.2.1 e h1 h2
  unfold mayA
  split
  · rcases Int.lt_or_le (A 33 e) 0 with h | h
    · rw [x9 h] at *; omega
    · rw [x10 h] at *; omega
  · omega
theorem S213 (hw : WT M p s A T) (hw' : WT M p u B T') (hsp : SP A B) : ∃ r : Bool, ev true 213 0 0 [pR 6 s, pR 6 u, pR 5 p, p0] [] M X = some (.inl (some (pI (bI r))), M, X) ∧ (r = true ↔ ISE A B) := by
  obtain ⟨⟨hp, hpl, hs, hl, hi, hT, hd⟩, hh, hlw⟩ := hw
  obtain ⟨⟨hp', -, hs', hu, hi', hT', hd'⟩, hh', hlw'⟩ := hw'
  have g := hi.1
  have g' := hi'.1
  have n0 : B 0 0 = A 0 0 := hsp.1
  have n1 : B 0 1 = A 0 1 := hsp.2.1
  have n3 : B 0 3 = A 0 3 := hsp.2.2.2.1
  have n4 : B 0 4 = A 0 4 := hsp.2.2.2.2.1
  have e1 := hp.2.1
  have e7 := hp.2.2.2.1
  have e12 := hp.2.2.2.2.1
  have s1 := hs.1
  have s1' := hs'.1
  have l41 : rl (s + 41) = 6 := by obtain ⟨-, -, -, -, -, -, -, -, -, -, -, -, -, -, l41, -⟩ := hl; exact l41
  have u41 : rl (u + 41) = 6 := by obtain ⟨-, -, -, -, -, -, -, -, -, -, -, -, -, -, l41, -⟩ := hu; exact l41
  have l27 : rl (s + 27) = 6 := by obtain ⟨-, -, -, -, -, -, -, l27, -⟩ := hl; exact l27
  have u27 : rl (u + 27) = 6 := by obtain ⟨-, -, -, -, -, -, -, l27, -⟩ := hu; exact l27
  have r32 : ∀ j, 0 ≤ j → j < A 0 1 → cl M (s + 41) j = ii (A 32 j) := by obtain ⟨-, -, -, -, -, -, -, -, -, -, -, -, -, -, h, -⟩ := hs; exact h
  have r32' : ∀ j, 0 ≤ j → j < B 0 1 → cl M (u + 41) j = ii (B 32 j) := by obtain ⟨-, -, -, -, -, -, -, -, -, -, -, -, -, -, h, -⟩ := hs'; exact h
  have r45 : ∀ j, 0 ≤ j → j < A 0 3 → cl M (s + 27) j = ii (A 45 j) := by obtain ⟨-, -, -, -, -, -, -, h, -⟩ := hs; exact h
  have r45' : ∀ j, 0 ≤ j → j < B 0 3 → cl M (u + 27) j = ii (B 45 j) := by obtain ⟨-, -, -, -, -, -, -, h, -⟩ := hs'; exact h
  have hq : QuL (s + 14) := ⟨hl.2.1, hl.2.2.1, hl.2.2.2.1⟩
  have hq' : QuL (u + 14) := ⟨hu.2.1, hu.2.2.1, hu.2.2.2.1⟩
  have no : ∀ {P : Prop}, ¬ P → (false = true ↔ P) := fun h => ⟨fun z => absurd z (by decide), fun z => absurd z h⟩
  -- sides, and how late
  have L4 : ∀ (m : Nat) (j : Int), j + m = A 0 3 → 0 ≤ j → (∀ y, 0 ≤ y → y < j → isdE A B y) → ∃ r : Bool, ev true 213 0 107 [pR 6 s, pR 6 u, pR 5 p, pI (ii j)] [] M X = some (.inl (some (pI (bI r))), M, X) ∧ (r = true ↔ (∀ y, 0 ≤ y → y < A 0 3 → isdE A B y) ∧ (useA A 5 = true → ∀ j, 0 ≤ j → j < A 0 3 → wlE A B j)) := by
    intro m
    induction m with
    | zero =>
      intro j h1 h2 h3
      have hall : ∀ y, 0 ≤ y → y < A 0 3 → isdE A B y := fun y a b => h3 y a (by omega)
      rw [q213_107, e7, ltF (by omega), i_5, S105 hp hpl hlw (by omega), kb1, q213_165, i_0, bIT]
      rcases hb : useA A 5 with _ | _
      · refine ⟨true, ?_, fun _ => ⟨hall, fun z => absurd z (by decide)⟩, fun _ => rfl⟩
        rw [cond_false, q213_177, i_1, q213_182, rk1]; rfl
      · obtain ⟨r, t1, t2⟩ := S161 (X := X) hp hs hs' hl hu hi hi' hT hT' n3 (fun j a b => (hall j a b).2.1)
        rw [cond_true, t1, kb1, q213_174, i_0, bIT]
        rcases r with _ | _
        · refine ⟨false, ?_, no fun z => absurd (t2.mpr (z.2 rfl)) (by decide)⟩
          rw [cond_false, q213_182, rk0]; rfl
        · refine ⟨true, ?_, fun _ => ⟨hall, fun _ => t2.mp rfl⟩, fun _ => rfl⟩
          rw [cond_true, q213_177, i_1, q213_182, rk1]; rfl
    | succ m ih =>
      intro j h1 h2 h3
      rw [q213_107, e7, ltT (by omega), S12 h2 (by omega), kb1, q213_123, S12 h2 (by omega), kb1, q213_131, r45 j h2 (by omega), r45' j h2 (by omega)]
      by_cases c1 : ii (A 45 j) = ii (B 45 j)
      · obtain ⟨r, t1, t2⟩ := S167 (X := X) (j := j) hs.2.2.1 hs'.2.2.1 hq hq' h2 (by omega) (fun k a b => by
          obtain ⟨-, -, -, -, -, -, -, -, -, -, -, -, d13⟩ := hi.2.2.2.1 j h2 (by omega)
          have := d13 k a b
          omega) (fun k a b => by
          obtain ⟨-, -, -, -, -, -, -, -, -, -, -, -, d13⟩ := hi'.2.2.2.1 j h2 (by omega)
          have := d13 k a b
          omega)
        rw [if_pos c1, t1, kb1, q213_146, i_0, bIT]
        rcases r with _ | _
        · refine ⟨false, ?_, no fun z => absurd (t2.mpr (z.1 j h2 (by omega)).2) (by decide)⟩
          rw [cond_false, q213_149, i_0, rk0]; rfl
        · rw [cond_true, i_1, ii_add]
          refine ih (j + 1) (by omega) (by omega) fun y a b => ?_
          rcases Int.lt_or_le y j with h | h
          · exact h3 y a h
          · rw [show y = j by omega]; exact ⟨c1, t2.mp rfl⟩
      · refine ⟨false, ?_, no fun z => absurd (z.1 j h2 (by omega)).1 c1⟩
        rw [if_neg c1, q213_149, i_0, rk0]; rfl
  -- what comes
  have hpB : PLv M p B := PLv_k hp (fun _ _ _ _ _ => rfl) hsp
  have L3 : ∀ (m : Nat) (c : Int), c + m = A 0 4 → 0 ≤ c → (∀ y, 0 ≤ y → y < c → dueA A y = dueA B y) → ∃ r : Bool, ev true 213 0 68 [pR 6 s, pR 6 u, pR 5 p, pI (ii c)] [] M X = some (.inl (some (pI (bI r))), M, X) ∧ (r = true ↔ (∀ y, 0 ≤ y → y < A 0 4 → dueA A y = dueA B y) ∧ (∀ y, 0 ≤ y → y < A 0 3 → isdE A B y) ∧ (useA A 5 = true → ∀ j, 0 ≤ j → j < A 0 3 → wlE A B j)) := by
    intro m
    induction m with
    | zero =>
      intro c h1 h2 h3
      obtain ⟨r, t1, t2⟩ := L4 (A 0 3).toNat 0 (by omega) (by omega) (fun y a b => by omega)
      refine ⟨r, by rw [q213_68, e12, ltF (by omega), i_0, t1], t2.trans ⟨fun h => ⟨fun y a b => h3 y a (by omega), h⟩, fun h => h.2⟩⟩
    | succ m ih =>
      intro c h1 h2 h3
      have v1 := due_ge hi h2 (by omega)
      have v2 := due_ge hi' h2 (by omega)
      rw [q213_68, e12, ltT (by omega), s1, S65 hp hpl hi hT h2 (by omega), kb1, q213_85, s1', S65 hpB hpl hi' hT' h2 (by omega), kb1, q213_94, ieq (by omega)]
      by_cases d : dueA A c = dueA B c
      · rw [if_pos d, i_1, ii_add]
        refine ih (c + 1) (by omega) (by omega) fun y a b => ?_
        rcases Int.lt_or_le y c with h | h
        · exact h3 y a h
        · rw [show y = c by omega]; exact d
      · refine ⟨false, ?_, no fun z => d (z.1 c h2 (by omega))⟩
        rw [if_neg d, i_0, rk0]; rfl
  -- exits
  have L2 : ∀ (m : Nat) (e : Int), e + m = A 0 1 → 0 ≤ e → (∀ y, 0 ≤ y → y < e → iexE A B y) → ∃ r : Bool, ev true 213 0 18 [pR 6 s, pR 6 u, pR 5 p, pI (ii e)] [] M X = some (.inl (some (pI (bI r))), M, X) ∧ (r = true ↔ (∀ y, 0 ≤ y → y < A 0 1 → iexE A B y) ∧ (∀ y, 0 ≤ y → y < A 0 4 → dueA A y = dueA B y) ∧ (∀ y, 0 ≤ y → y < A 0 3 → isdE A B y) ∧ (useA A 5 = true → ∀ j, 0 ≤ j → j < A 0 3 → wlE A B j)) := by
    intro m
    induction m with
    | zero =>
      intro e h1 h2 h3
      obtain ⟨r, t1, t2⟩ := L3 (A 0 4).toNat 0 (by omega) (by omega) (fun y a b => by omega)
      refine ⟨r, by rw [q213_18, e1, ltF (by omega), i_0, t1], t2.trans ⟨fun h => ⟨fun y a b => h3 y a (by omega), h⟩, fun h => h.2⟩⟩
    | succ m ih =>
      intro e h1 h2 h3
      obtain ⟨x1, x2, x3, x4, x5, x6, -⟩ := hi.2.1 e h2 (by omega)
      obtain ⟨y1, y2, y3, y4, y5, y6, -⟩ := hi'.2.1 e h2 (by omega)
      have v1 := may_in hi hT h2 (by omega)
      have v2 := may_in hi' hT' h2 (by omega)
      rw [q213_18, e1, ltT (by omega), S12 h2 (by omega), kb1, q213_34, S12 h2 (by omega), kb1, q213_42, r32 e h2 (by omega), r32' e h2 (by omega), ieq (by omega)]
      by_cases d : A 32 e = B 32 e
      · rw [if_pos d, S68 hs hl hi hT h2 (by omega), kb1, q213_50, S68 hs' hu hi' hT' h2 (by omega), kb1, q213_55, ieq (by omega)]
        by_cases d2 : mayA A e = mayA B e
        · rw [if_pos d2, i_1, ii_add]
          refine ih (e + 1) (by omega) (by omega) fun y a b => ?_
          rcases Int.lt_or_le y e with h | h
          · exact h3 y a h
          · rw [show y = e by omega]; exact ⟨d, d2⟩
        · refine ⟨false, ?_, no fun z => d2 (z.1 e h2 (by omega)).2⟩
          rw [if_neg d2, q213_58, i_0, rk0]; rfl
      · refine ⟨false, ?_, no fun z => d (z.1 e h2 (by omega)).1⟩
        rw [if_neg d, q213_58, i_0, rk0]; rfl
  obtain ⟨tu, s2⟩ := hs.2.1
  obtain ⟨tv, s2'⟩ := hs'.2.1
  rw [n0] at s2'
  obtain ⟨r, t1, t2⟩ := S90l (X := X) s2 s2' hl.1 hu.1 (fun q a b => by
    have := hi.2.2.2.2.2.2 q a b
    omega) (fun q a b => by
    have := hi'.2.2.2.2.2.2 q a (by omega)
    omega) (A 0 0).toNat 0 p0 p0 (by omega) (by omega)
  have t1 : ev true 90 0 0 [pR 9 (s + 1), pR 9 (u + 1), p0, p0, p0] [] M X = some (.inl (some (pI (bI r))), M, X) := by
    rw [q90_0, i_0]; exact t1
  rw [q213_0, t1, kb1, q213_11, i_0, bIT]
  rcases r with _ | _
  · refine ⟨false, ?_, no fun z => absurd (t2.mpr z.1) (by decide)⟩
    rw [cond_false, rk0]; rfl
  · obtain ⟨r, u1, u2⟩ := L2 (A 0 1).toNat 0 (by omega) (by omega) (fun y a b => by omega)
    exact ⟨r, by rw [cond_true, u1], u2.trans ⟨fun h => ⟨t2.mp rfl, h⟩, fun h => h.2⟩⟩
end ISA
