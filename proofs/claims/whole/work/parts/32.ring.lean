/-! the ring of places, as seen by places -/
section RING
set_option maxRecDepth 100000
/-- a state in numbers: kinds of cells, places in them -/
abbrev AT : Type := Nat → Int → Int
def upA (A : AT) (f : Nat) (z v : Int) : AT := fun g j => if g = f ∧ j = z then v else A g j
theorem upA_s {A : AT} {f : Nat} {z v : Int} (y : Int) : upA A f z v f y = if y = z then v else A f y := by unfold upA; by_cases h : y = z <;> simp [h]
theorem upA_n {A : AT} {f g : Nat} {z v y : Int} (h : g ≠ f) : upA A f z v g y = A g y := by unfold upA; rw [if_neg (fun q => h q.1)]
theorem upA_e {A : AT} {f : Nat} {z v : Int} : upA A f z v f z = v := by rw [upA_s, if_pos rfl]
theorem upA_d {A : AT} {f : Nat} {z v y : Int} (h : y ≠ z) : upA A f z v f y = A f y := by rw [upA_s, if_neg h]
theorem cl_sc {M : Mem} {t : Nat} {z y : Int} {v : Int32} (h1 : 0 ≤ z) (h2 : 0 ≤ y) : cl (sc M t z v) t y = if y = z then v else cl M t y := by
  unfold cl sc upM
  by_cases h : y = z
  · subst h; simp
  · rw [if_neg (by omega), if_neg h]
theorem cl_sn {M : Mem} {t u : Nat} {z y : Int} {v : Int32} (h : u ≠ t) : cl (sc M t z v) u y = cl M u y := by
  unfold cl sc upM
  rw [if_neg (by omega)]
theorem sc_n {M : Mem} {t : Nat} {z : Int} {v : Int32} {b j : Nat} (h : b ≠ t + 1) : sc M t z v b j = M b j := by
  unfold sc upM
  rw [if_neg (by omega)]
theorem cl_un {M : Mem} {t a k : Nat} {y : Int} {v : Int32} (h : t + 1 ≠ a) : cl (upM M a k v) t y = cl M t y := by
  unfold cl upM
  rw [if_neg (by omega)]
theorem up_s {M : Mem} {a k j : Nat} {v : Int32} : upM M a k v a j = if j = k then v else M a j := by unfold upM; by_cases h : j = k <;> simp [h]
theorem up_n {M : Mem} {a b k j : Nat} {v : Int32} (h : b ≠ a) : upM M a k v b j = M b j := by unfold upM; rw [if_neg (by omega)]
theorem up_d {M : Mem} {a k j : Nat} {v : Int32} (h : j ≠ k) : upM M a k v a j = M a j := by rw [up_s, if_neg h]
def cR (N tu q : Int) : Int := if q < tu then q - tu + N else q - tu
theorem cR_in {N tu q : Int} (h1 : 0 ≤ tu) (h2 : tu < N) (h3 : 0 ≤ q) (h4 : q < N) : 0 ≤ cR N tu q ∧ cR N tu q < N := by unfold cR; split <;> omega
theorem cR_inj {N tu q y : Int} (h1 : 0 ≤ tu) (h2 : tu < N) (h3 : 0 ≤ q) (h4 : q < N) (h5 : 0 ≤ y) (h6 : y < N) : (cR N tu y = cR N tu q) = (y = q) := by
  apply propext
  unfold cR
  constructor
  · intro h; split at h <;> split at h <;> omega
  · intro h; rw [h]
/-- the lengths of a ring's rows -/
def RgL (g : Nat) : Prop := rl (g + 1) = 40 ∧ rl (g + 3) = 40 ∧ rl (g + 5) = 40 ∧ rl (g + 7) = 40 ∧ rl (g + 9) = 40 ∧ rl (g + 11) = 40
def RVt (M : Mem) (g : Nat) (N : Int) (A : AT) (tu : Int) : Prop := 0 ≤ tu ∧ tu < N ∧ N ≤ 40 ∧ M g 7 = ii tu ∧ M g 6 = ii N ∧
  ∀ q : Int, 0 ≤ q → q < N → cl M (g + 1) (cR N tu q) = ii (A 20 q) ∧ cl M (g + 3) (cR N tu q) = ii (A 21 q) ∧ cl M (g + 5) (cR N tu q) = ii (A 22 q) ∧ (A 20 q ≠ -1 → cl M (g + 7) (cR N tu q) = ii (A 23 q) ∧ cl M (g + 9) (cR N tu q) = ii (A 24 q)) ∧ cl M (g + 11) (cR N tu q) = ii (A 25 q)
section OPS
variable {g : Nat} {N tu q : Int} {A : AT} {M : Mem} {X : PX}
theorem S16 (h : RVt M g N A tu) (h1 : 0 ≤ q) (h2 : q < N) : ev true 16 0 0 [pR 9 g, pI (ii q), p0] [] M X = some (.inl (some (pI (ii (cR N tu q)))), M, X) := by
  obtain ⟨a1, a2, a3, a4, a5, -⟩ := h
  rw [q16_0, a4, a5, ii_sub, i_0, ilt (by omega), ii_add]
  unfold cR
  by_cases hq : q - tu < 0
  · rw [if_pos hq, if_pos (by omega), q16_21]
  · rw [if_neg hq, if_neg (by omega), q16_21]
theorem S78 (h : RVt M g N A tu) (hl : RgL g) (h1 : 0 ≤ q) (h2 : q < N) : ev true 78 0 0 [pR 9 g, pI (ii q)] [] M X = some (.inl (some (pI (ii (A 20 q)))), M, X) := by
  obtain ⟨c1, c2⟩ := cR_in h.1 h.2.1 h1 h2
  obtain ⟨l1, l2, l3, l4, l5, l6⟩ := hl
  have hN := h.2.2.1
  rw [q78_0, S16 h h1 h2, kb1, q78_9, S12 c1 (by omega), kb1, q78_12, (h.2.2.2.2.2 q h1 h2).1]
theorem S79 (h : RVt M g N A tu) (hl : RgL g) (h1 : 0 ≤ q) (h2 : q < N) : ev true 79 0 0 [pR 9 g, pI (ii q)] [] M X = some (.inl (some (pI (ii (A 21 q)))), M, X) := by
  obtain ⟨c1, c2⟩ := cR_in h.1 h.2.1 h1 h2
  obtain ⟨l1, l2, l3, l4, l5, l6⟩ := hl
  have hN := h.2.2.1
  rw [q79_0, S16 h h1 h2, kb1, q79_9, S12 c1 (by omega), kb1, q79_12, (h.2.2.2.2.2 q h1 h2).2.1]
theorem S80 (h : RVt M g N A tu) (hl : RgL g) (h1 : 0 ≤ q) (h2 : q < N) : ev true 80 0 0 [pR 9 g, pI (ii q)] [] M X = some (.inl (some (pI (ii (A 22 q)))), M, X) := by
  obtain ⟨c1, c2⟩ := cR_in h.1 h.2.1 h1 h2
  obtain ⟨l1, l2, l3, l4, l5, l6⟩ := hl
  have hN := h.2.2.1
  rw [q80_0, S16 h h1 h2, kb1, q80_9, S12 c1 (by omega), kb1, q80_12, (h.2.2.2.2.2 q h1 h2).2.2.1]
theorem S81 (h : RVt M g N A tu) (hl : RgL g) (h1 : 0 ≤ q) (h2 : q < N) (h3 : A 20 q ≠ -1) : ev true 81 0 0 [pR 9 g, pI (ii q)] [] M X = some (.inl (some (pI (ii (A 23 q)))), M, X) := by
  obtain ⟨c1, c2⟩ := cR_in h.1 h.2.1 h1 h2
  obtain ⟨l1, l2, l3, l4, l5, l6⟩ := hl
  have hN := h.2.2.1
  rw [q81_0, S16 h h1 h2, kb1, q81_9, S12 c1 (by omega), kb1, q81_12, ((h.2.2.2.2.2 q h1 h2).2.2.2.1 h3).1]
theorem S85 (h : RVt M g N A tu) (hl : RgL g) (h1 : 0 ≤ q) (h2 : q < N) (h3 : A 20 q ≠ -1) : ev true 85 0 0 [pR 9 g, pI (ii q)] [] M X = some (.inl (some (pI (ii (A 24 q)))), M, X) := by
  obtain ⟨c1, c2⟩ := cR_in h.1 h.2.1 h1 h2
  obtain ⟨l1, l2, l3, l4, l5, l6⟩ := hl
  have hN := h.2.2.1
  rw [q85_0, S16 h h1 h2, kb1, q85_9, S12 c1 (by omega), kb1, q85_12, ((h.2.2.2.2.2 q h1 h2).2.2.2.1 h3).2]
theorem S82 (h : RVt M g N A tu) (hl : RgL g) (h1 : 0 ≤ q) (h2 : q < N) : ev true 82 0 0 [pR 9 g, pI (ii q)] [] M X = some (.inl (some (pI (ii (A 25 q)))), M, X) := by
  obtain ⟨c1, c2⟩ := cR_in h.1 h.2.1 h1 h2
  obtain ⟨l1, l2, l3, l4, l5, l6⟩ := hl
  have hN := h.2.2.1
  rw [q82_0, S16 h h1 h2, kb1, q82_9, S12 c1 (by omega), kb1, q82_12, (h.2.2.2.2.2 q h1 h2).2.2.2.2]
theorem S87 (h : RVt M g N A tu) (hl : RgL g) (h1 : 0 ≤ q) (h2 : q < N) (h3 : -1 ≤ A 20 q ∧ A 20 q < 100) (h4 : -1 ≤ A 25 q ∧ A 25 q < 100) : ev true 87 0 0 [pR 9 g, pI (ii q), p0] [] M X = some (.inl (some (pI (bI (decide (A 20 q = -1 ∧ A 25 q = -1))))), M, X) := by
  obtain ⟨c1, c2⟩ := cR_in h.1 h.2.1 h1 h2
  obtain ⟨l1, l2, l3, l4, l5, l6⟩ := hl
  have hN := h.2.2.1
  have e := h.2.2.2.2.2 q h1 h2
  rw [q87_0, S16 h h1 h2, kb1, q87_5, S12 c1 (by omega), kb1, q87_14, e.1, ii_m1, ieq (by omega)]
  by_cases k1 : A 20 q = -1
  · rw [if_pos k1, S12 c1 (by omega), kb1, q87_26, e.2.2.2.2, ii_m1, ieq (by omega)]
    by_cases k2 : A 25 q = -1
    · rw [if_pos k2, q87_35, i_1, rk1, decide_eq_true ⟨k1, k2⟩]; rfl
    · rw [if_neg k2, q87_34, q87_35, i_0, rk0, decide_eq_false (fun z => k2 z.2)]; rfl
  · rw [if_neg k1, q87_34, q87_35, i_0, rk0, decide_eq_false (fun z => k1 z.1)]; rfl
theorem S88 {v : Int} (h : RVt M g N A tu) (hl : RgL g) (h1 : 0 ≤ q) (h2 : q < N) : ev true 88 0 0 [pR 9 g, pI (ii q), pI (ii v)] [] M X = some (.inl none, sc M (g + 11) (cR N tu q) (ii v), X) ∧ RVt (sc M (g + 11) (cR N tu q) (ii v)) g N (upA A 25 q v) tu := by
  obtain ⟨c1, c2⟩ := cR_in h.1 h.2.1 h1 h2
  obtain ⟨l1, l2, l3, l4, l5, l6⟩ := hl
  have hN := h.2.2.1
  refine ⟨by rw [q88_0, S16 h h1 h2, kb1, q88_9, S11 c1 (by omega), kb0, q88_13], ?_⟩
  obtain ⟨a1, a2, a3, a4, a5, a6⟩ := h
  refine ⟨a1, a2, a3, by rw [sc_n (by omega)]; exact a4, by rw [sc_n (by omega)]; exact a5, fun y y1 y2 => ?_⟩
  obtain ⟨d1, d2⟩ := cR_in a1 a2 y1 y2
  obtain ⟨b1, b2, b3, b4, b5⟩ := a6 y y1 y2
  have e0 := cR_inj a1 a2 h1 h2 y1 y2
  simp (disch := omega) only [cl_sn, cl_sc, e0, upA_s, upA_n]
  refine ⟨b1, b2, b3, b4, ?_⟩
  by_cases hy : y = q
  · rw [if_pos hy, if_pos hy]
  · rw [if_neg hy, if_neg hy]; exact b5
end OPS
end RING
