/-! what stays of a view where little is written -/
section FRM
set_option maxRecDepth 100000
variable {u s p l t g : Nat} {j k q e w c T n tu nx : Int} {A A' : AT} {M M' : Mem} {X : PX} {f : Nat}
/-- nothing but inside the state's block is written -/
def FrI (s : Nat) (M M' : Mem) : Prop := ∀ b, b ≤ s ∨ s + 50 ≤ b → M' b = M b
theorem FrI.rf : FrI s M M := fun _ _ => rfl
theorem FrI.tr {M1 M2 M3 : Mem} (h1 : FrI s M1 M2) (h2 : FrI s M2 M3) : FrI s M1 M3 := fun b hb => (h2 b hb).trans (h1 b hb)
theorem cl_at (h : M' (t + 1) = M (t + 1)) : cl M' t j = cl M t j := by unfold cl; rw [h]
theorem RW_k (h : RW M t n A f) (h1 : M' (t + 1) = M (t + 1)) (h2 : A' f = A f) : RW M' t n A' f := fun j a b => by rw [cl_at h1, h2]; exact h j a b
theorem RW_n {n' : Int} (h : RW M t n A f) (hn : n' = n) : RW M t n' A f := by rw [hn]; exact h
theorem RW_u {v : Int} (h : RW M t n A f) (hj : 0 ≤ j) : RW (sc M t j (ii v)) t n (upA A f j v) f := fun y a b => by
  rw [cl_sc hj a, upA_s]
  by_cases hy : y = j
  · rw [if_pos hy, if_pos hy]
  · rw [if_neg hy, if_neg hy]; exact h y a b
theorem QV_k (h : QV M u A) (h1 : M' (u + 2) = M (u + 2)) (h2 : M' (u + 4) = M (u + 4)) (h3 : M' (u + 6) = M (u + 6)) (a1 : A' 44 = A 44) (a2 : A' 60 = A 60) (a3 : A' 61 = A 61) : QV M' u A' := fun j b1 b2 => by
  rw [a1, a2, a3, cl_at (t := u + 5) h3]
  obtain ⟨c1, c2, c3, c4⟩ := h j b1 b2
  refine ⟨c1, c2, c3, fun k k1 k2 => ?_⟩
  rw [cl_at (t := u + 1) h1, cl_at (t := u + 3) h2]
  exact c4 k k1 k2
theorem RVt_k {N : Int} (h : RVt M g N A tu) (h0 : M' g = M g) (h1 : M' (g + 2) = M (g + 2)) (h2 : M' (g + 4) = M (g + 4)) (h3 : M' (g + 6) = M (g + 6)) (h4 : M' (g + 8) = M (g + 8)) (h5 : M' (g + 10) = M (g + 10)) (h6 : M' (g + 12) = M (g + 12)) (a0 : A' 20 = A 20) (a1 : A' 21 = A 21) (a2 : A' 22 = A 22) (a3 : A' 23 = A 23) (a4 : A' 24 = A 24) (a5 : A' 25 = A 25) : RVt M' g N A' tu := by
  obtain ⟨b1, b2, b3, b4, b5, b6⟩ := h
  refine ⟨b1, b2, b3, by rw [h0]; exact b4, by rw [h0]; exact b5, fun q q1 q2 => ?_⟩
  rw [a0, a1, a2, a3, a4, a5, cl_at (t := g + 1) h1, cl_at (t := g + 3) h2, cl_at (t := g + 5) h3, cl_at (t := g + 7) h4, cl_at (t := g + 9) h5, cl_at (t := g + 11) h6]
  exact b6 q q1 q2
theorem LGt_k (h : LGt M l A nx) (h0 : M' l = M l) (h1 : M' (l + 2) = M (l + 2)) (a0 : A' 0 8 = A 0 8) (a1 : A' 70 = A 70) : LGt M' l A' nx := by
  obtain ⟨b1, b2, b3, b4, b5, b6, b7⟩ := h
  refine ⟨b1, b2, by rw [h0]; exact b3, by rw [h0, a0]; exact b4, by rw [a0]; exact b5, by rw [a0]; exact b6, fun a k c1 c2 c3 c4 => ?_⟩
  rw [a0] at c2
  rw [a1, cl_at (t := l + 1) h1]
  exact b7 a k c1 c2 c3 c4
/-- the plan's numbers are the same -/
def SP (A A' : AT) : Prop := A' 0 0 = A 0 0 ∧ A' 0 1 = A 0 1 ∧ A' 0 2 = A 0 2 ∧ A' 0 3 = A 0 3 ∧ A' 0 4 = A 0 4 ∧ A' 0 9 = A 0 9 ∧ A' 26 = A 26 ∧ A' 27 = A 27 ∧ A' 30 = A 30 ∧ A' 31 = A 31 ∧ A' 40 = A 40 ∧ A' 50 = A 50 ∧ A' 51 = A 51 ∧ A' 52 = A 52 ∧ A' 53 = A 53 ∧ A' 80 = A 80 ∧ A' 81 = A 81
theorem SP.rf : SP A A := ⟨rfl, rfl, rfl, rfl, rfl, rfl, rfl, rfl, rfl, rfl, rfl, rfl, rfl, rfl, rfl, rfl, rfl⟩
theorem SP.tr {B C : AT} (h1 : SP A B) (h2 : SP B C) : SP A C := by
  obtain ⟨a1, a2, a3, a4, a5, a6, a7, a8, a9, a10, a11, a12, a13, a14, a15, a16, a17⟩ := h1
  obtain ⟨b1, b2, b3, b4, b5, b6, b7, b8, b9, b10, b11, b12, b13, b14, b15, b16, b17⟩ := h2
  exact ⟨b1.trans a1, b2.trans a2, b3.trans a3, b4.trans a4, b5.trans a5, b6.trans a6, b7.trans a7, b8.trans a8, b9.trans a9, b10.trans a10, b11.trans a11, b12.trans a12, b13.trans a13, b14.trans a14, b15.trans a15, b16.trans a16, b17.trans a17⟩
/-- what of a plan isn't scratch: but the law's parts and stack -/
theorem PLv_k (h : PLv M p A) (hM : ∀ b, p ≤ b → b < p + 34 → b ≠ p + 27 → b ≠ p + 31 → M' b = M b) (hA : SP A A') : PLv M' p A' := by
  obtain ⟨a1, a2, a3, a4, a5, a6, a7, a8, a9, a10, a11, a12, a13, a14, a15, a16, a17⟩ := hA
  obtain ⟨p1, p2, p3, p4, p5, p6, p7, p8, p9, p10, p11, p12, p13, p14, p15, p16, p17⟩ := h
  have h0 := hM p (by omega) (by omega) (by omega) (by omega)
  refine ⟨by rw [h0, a1]; exact p1, by rw [h0, a2]; exact p2, by rw [h0, a3]; exact p3, by rw [h0, a4]; exact p4, by rw [h0, a5]; exact p5, by rw [h0, a6]; exact p6, ?_, ?_, ?_, ?_, ?_, ?_, ?_, ?_, ?_, ?_, ?_⟩
  · exact RW_n (RW_k p7 (hM _ (by omega) (by omega) (by omega) (by omega)) a9) a2
  · exact RW_n (RW_k p8 (hM _ (by omega) (by omega) (by omega) (by omega)) a10) a2
  · exact RW_n (RW_k p9 (hM _ (by omega) (by omega) (by omega) (by omega)) a7) a3
  · exact RW_n (RW_k p10 (hM _ (by omega) (by omega) (by omega) (by omega)) a8) a3
  · exact RW_n (RW_k p11 (hM _ (by omega) (by omega) (by omega) (by omega)) a11) a4
  · exact RW_n (RW_k p12 (hM _ (by omega) (by omega) (by omega) (by omega)) a12) a5
  · exact RW_n (RW_k p13 (hM _ (by omega) (by omega) (by omega) (by omega)) a13) a5
  · exact RW_n (RW_k p14 (hM _ (by omega) (by omega) (by omega) (by omega)) a14) a5
  · exact RW_n (RW_k p15 (hM _ (by omega) (by omega) (by omega) (by omega)) a15) a5
  · rw [hM (p + 25) (by omega) (by omega) (by omega) (by omega), a17]; exact p16
  · rw [a17]
    exact RW_k p17 (hM _ (by omega) (by omega) (by omega) (by omega)) a16
theorem STv_k (h : STv M s A) (hM : ∀ b, s ≤ b → b < s + 50 → M' b = M b) (hA : A' = A) : STv M' s A' := by
  subst hA
  obtain ⟨s1, ⟨tu, s2⟩, s3, ⟨nx, s4⟩, s5, s6, s7, s8, s9, s10, s11, s12, s13, s14, s15, s16, s17⟩ := h
  have k : ∀ b, b < 50 → M' (s + b) = M (s + b) := fun b hb => hM _ (by omega) (by omega)
  exact ⟨by rw [hM s (by omega) (by omega)]; exact s1, ⟨tu, RVt_k s2 (k 1 (by omega)) (k 3 (by omega)) (k 5 (by omega)) (k 7 (by omega)) (k 9 (by omega)) (k 11 (by omega)) (k 13 (by omega)) rfl rfl rfl rfl rfl rfl⟩, QV_k s3 (k 16 (by omega)) (k 18 (by omega)) (k 20 (by omega)) rfl rfl rfl, ⟨nx, LGt_k s4 (k 47 (by omega)) (k 49 (by omega)) rfl rfl⟩, RW_k s5 (k 22 (by omega)) rfl, RW_k s6 (k 24 (by omega)) rfl, RW_k s7 (k 26 (by omega)) rfl, RW_k s8 (k 28 (by omega)) rfl, RW_k s9 (k 30 (by omega)) rfl, RW_k s10 (k 32 (by omega)) rfl, RW_k s11 (k 34 (by omega)) rfl, RW_k s12 (k 36 (by omega)) rfl, RW_k s13 (k 38 (by omega)) rfl, RW_k s14 (k 40 (by omega)) rfl, RW_k s15 (k 42 (by omega)) rfl, RW_k s16 (k 44 (by omega)) rfl, RW_k s17 (k 46 (by omega)) rfl⟩
theorem upA_f {v : Int} {z : Int} {f g : Nat} (h : g ≠ f) : upA A f z v g = A g := by funext y; exact upA_n h
end FRM
