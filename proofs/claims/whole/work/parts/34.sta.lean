/-! what a state and a plan in memory say, in numbers -/
section STA
set_option maxRecDepth 100000
def RW (M : Mem) (t : Nat) (n : Int) (A : AT) (f : Nat) : Prop := ∀ j : Int, 0 ≤ j → j < n → cl M t j = ii (A f j)
def lgR (nx a : Int) : Int := if nx - 1 - a < 0 then nx - 1 - a + 40 else nx - 1 - a
def LGt (M : Mem) (l : Nat) (A : AT) (nx : Int) : Prop := 0 ≤ nx ∧ nx < 40 ∧ M l 1 = ii nx ∧ M l 2 = ii (A 0 8) ∧ 0 ≤ A 0 8 ∧ A 0 8 ≤ 40 ∧ ∀ a k : Int, 0 ≤ a → a < A 0 8 → 0 ≤ k → k < 7 → cl M (l + 1) (7 * lgR nx a + k) = ii (A 70 (7 * a + k))
def PLv (M : Mem) (p : Nat) (A : AT) : Prop :=
  M p 0 = ii (A 0 0) ∧ M p 1 = ii (A 0 1) ∧ M p 4 = ii (A 0 2) ∧ M p 7 = ii (A 0 3) ∧ M p 12 = ii (A 0 4) ∧ M p 17 = ii (A 0 9) ∧
  RW M (p + 1) (A 0 1) A 30 ∧ RW M (p + 3) (A 0 1) A 31 ∧ RW M (p + 5) (A 0 2) A 26 ∧ RW M (p + 7) (A 0 2) A 27 ∧ RW M (p + 9) (A 0 3) A 40 ∧
  RW M (p + 17) (A 0 4) A 50 ∧ RW M (p + 19) (A 0 4) A 51 ∧ RW M (p + 21) (A 0 4) A 52 ∧ RW M (p + 23) (A 0 4) A 53 ∧
  M (p + 25) 2 = ii (A 81 0) ∧ RW M (p + 32) (A 81 0) A 80
def STv (M : Mem) (s : Nat) (A : AT) : Prop :=
  M s 0 = ii (A 0 5) ∧ (∃ tu, RVt M (s + 1) (A 0 0) A tu) ∧ QV M (s + 14) A ∧ (∃ nx, LGt M (s + 47) A nx) ∧
  RW M (s + 21) (A 0 3) A 41 ∧ RW M (s + 23) (A 0 3) A 42 ∧ RW M (s + 25) (A 0 3) A 43 ∧ RW M (s + 27) (A 0 3) A 45 ∧ RW M (s + 29) (A 0 3) A 90 ∧ RW M (s + 31) (A 0 3) A 46 ∧ RW M (s + 33) 6 A 47 ∧ RW M (s + 35) 6 A 48 ∧ RW M (s + 37) (A 0 3) A 49 ∧
  RW M (s + 39) (A 0 1) A 35 ∧ RW M (s + 41) (A 0 1) A 32 ∧ RW M (s + 43) 6 A 34 ∧ RW M (s + 45) (A 0 2) A 28
/-- the bounds of a state, its ticks T at most -/
def INV (A : AT) (T : Int) : Prop :=
  (4 ≤ A 0 0 ∧ A 0 0 ≤ 40 ∧ 0 ≤ A 0 1 ∧ A 0 1 ≤ 6 ∧ 0 ≤ A 0 2 ∧ A 0 2 ≤ 8 ∧ 0 ≤ A 0 3 ∧ A 0 3 ≤ 6 ∧ 0 ≤ A 0 4 ∧ A 0 4 ≤ 12 ∧ 0 ≤ A 0 5 ∧ A 0 5 ≤ T ∧ 0 ≤ A 0 8 ∧ A 0 8 ≤ 40 ∧ 0 ≤ A 0 9 ∧ A 0 9 ≤ 1) ∧
  (∀ e : Int, 0 ≤ e → e < A 0 1 → 0 ≤ A 30 e ∧ A 30 e < A 0 0 ∧ 1 ≤ A 31 e ∧ A 31 e ≤ 9 ∧ 0 ≤ A 32 e ∧ A 32 e ≤ 999 ∧ -1 ≤ A 33 e ∧ A 33 e ≤ A 0 5 ∧ (A 33 e < 0 → A 35 e = 0) ∧ (0 ≤ A 33 e → A 35 e = A 33 e + A 31 e)) ∧
  (∀ w : Int, 0 ≤ w → w < A 0 2 → 0 ≤ A 26 w ∧ A 26 w < A 0 1 ∧ 0 ≤ A 27 w ∧ A 27 w ≤ 1) ∧
  (∀ s : Int, 0 ≤ s → s < A 0 3 → 0 ≤ A 40 s ∧ A 40 s < A 0 0 ∧ 1 ≤ A 41 s ∧ A 41 s ≤ 20 ∧ 0 ≤ A 42 s ∧ A 42 s < A 0 0 ∧ 1 ≤ A 43 s ∧ A 43 s ≤ 9 ∧ 0 ≤ A 44 s ∧ A 44 s ≤ 20 ∧ 0 ≤ A 49 s ∧ A 49 s ≤ A 0 5 ∧
    ∀ k : Int, 0 ≤ k → k < A 44 s → 0 ≤ A 60 (20 * s + k) ∧ A 60 (20 * s + k) < A 0 2 ∧ 0 ≤ A 61 (20 * s + k) ∧ A 61 (20 * s + k) ≤ A 0 5) ∧
  (∀ s : Int, A 0 3 ≤ s → s < 6 → A 44 s = 0) ∧
  (∀ c : Int, 0 ≤ c → c < A 0 4 → 0 ≤ A 50 c ∧ A 50 c < A 0 3 ∧ 0 ≤ A 51 c ∧ A 51 c < A 0 2 ∧ 1 ≤ A 52 c ∧ A 52 c ≤ 30 ∧ 0 ≤ A 53 c ∧ A 53 c ≤ 999) ∧
  (∀ q : Int, 0 ≤ q → q < A 0 0 → -1 ≤ A 20 q ∧ A 20 q < A 0 2 ∧ -1 ≤ A 21 q ∧ A 21 q < A 0 3 ∧ -1 ≤ A 25 q ∧ A 25 q < A 0 3 ∧ (A 20 q ≠ -1 → 0 ≤ A 21 q ∧ A 25 q = -1) ∧ (A 20 q = -1 → A 21 q = -1 ∧ A 22 q = -1))
section OPS
variable {u s p l : Nat} {j k q e w c T : Int} {A : AT} {M : Mem} {X : PX}
/-- a row of the log is written -/
def logA (A : AT) (v : Int → Int) : AT := fun f i => if f = 70 ∧ 0 ≤ i then (if i < 7 then v i else A 70 (i - 7)) else if f = 0 ∧ i = 8 then (if 40 < A 0 8 + 1 then 40 else A 0 8 + 1) else A f i
theorem logA_08 {v : Int → Int} : logA A v 0 8 = if 40 < A 0 8 + 1 then 40 else A 0 8 + 1 := by
  unfold logA
  rw [if_neg (by omega), if_pos ⟨rfl, rfl⟩]
theorem logA_70 {v : Int → Int} {i : Int} (h : 0 ≤ i) : logA A v 70 i = if i < 7 then v i else A 70 (i - 7) := by
  unfold logA
  rw [if_pos ⟨rfl, h⟩]
theorem S98 {v0 v1 v2 v3 v4 v5 v6 nx : Int} (h : LGt M l A nx) (hl : rl (l + 1) = 280) : ∃ M' nx', ev true 98 0 0 [pR 11 l, pI (ii v0), pI (ii v1), pI (ii v2), pI (ii v3), pI (ii v4), pI (ii v5), pI (ii v6), p0] [] M X = some (.inl none, M', X) ∧
    LGt M' l (logA A fun i => if i = 0 then v0 else if i = 1 then v1 else if i = 2 then v2 else if i = 3 then v3 else if i = 4 then v4 else if i = 5 then v5 else v6) nx' ∧ ∀ b, b ≠ l → b ≠ l + 2 → M' b = M b := by
  obtain ⟨a1, a2, a3, a4, a5, a6, a7⟩ := h
  obtain ⟨M1, hM1⟩ : ∃ M1, M1 = sc (sc (sc (sc (sc (sc (sc M (l + 1) (nx * 7) (ii v0)) (l + 1) (nx * 7 + 1) (ii v1)) (l + 1) (nx * 7 + 2) (ii v2)) (l + 1) (nx * 7 + 3) (ii v3)) (l + 1) (nx * 7 + 4) (ii v4)) (l + 1) (nx * 7 + 5) (ii v5)) (l + 1) (nx * 7 + 6) (ii v6) := ⟨_, rfl⟩
  have c1 : ∀ b, b ≠ l + 2 → M1 b = M b := fun b hb => by
    funext i
    rw [hM1]
    repeat rw [sc_n (by omega)]
  have c2 : ∀ r k : Int, 0 ≤ r → r < 40 → 0 ≤ k → k < 7 → cl M1 (l + 1) (7 * r + k) = if r = nx then ii (if k = 0 then v0 else if k = 1 then v1 else if k = 2 then v2 else if k = 3 then v3 else if k = 4 then v4 else if k = 5 then v5 else v6) else cl M (l + 1) (7 * r + k) := by
    intro r k r1 r2 k1 k2
    rw [hM1]
    simp (disch := omega) only [cl_sc]
    by_cases hr : r = nx
    · subst hr
      rw [if_pos rfl]
      rcases (by omega : k = 0 ∨ k = 1 ∨ k = 2 ∨ k = 3 ∨ k = 4 ∨ k = 5 ∨ k = 6) with rfl | rfl | rfl | rfl | rfl | rfl | rfl <;> simp (disch := omega) only [if_pos, if_neg, if_true, if_false]
    · rw [if_neg hr]
      simp (disch := omega) only [if_neg]
  have f1 : M1 l 1 = ii nx := by rw [c1 l (by omega)]; exact a3
  have f2 : M1 l 2 = ii (A 0 8) := by rw [c1 l (by omega)]; exact a4
  obtain ⟨n2, e2, g1, g2, g3⟩ : ∃ n2 : Int, (∀ L : List PV, (if ii nx + ii 1 < ii 40 then ev true 98 0 118 L [pI (ii nx + ii 1), pR 11 l] M1 X else ev true 98 0 118 L [pI (ii 0), pR 11 l] M1 X) = ev true 98 0 118 L [pI (ii n2), pR 11 l] M1 X) ∧ 0 ≤ n2 ∧ n2 < 40 ∧ ∀ a, 0 ≤ a → a < 40 → lgR n2 a = if a = 0 then nx else lgR nx (a - 1) := by
    by_cases hc : nx + 1 < 40
    · refine ⟨nx + 1, fun L => by rw [ii_add, ltT (by omega)], by omega, by omega, fun a b1 b2 => ?_⟩
      unfold lgR
      split <;> split <;> first | omega | (split <;> omega)
    · refine ⟨0, fun L => by rw [ii_add, ltF (by omega)], by omega, by omega, fun a b1 b2 => ?_⟩
      unfold lgR
      split <;> split <;> first | omega | (split <;> omega)
  refine ⟨upM (upM M1 l 1 (ii n2)) l 2 (ii (if 40 < A 0 8 + 1 then 40 else A 0 8 + 1)), n2, ?_, ?_, ?_⟩
  · rw [q98_0, i_7, a3, ii_mul, S11 (by omega) (by omega), kb0, q98_19, i_1, ii_add, S11 (by omega) (by omega), kb0, q98_31, i_2, ii_add, S11 (by omega) (by omega), kb0, q98_43, i_3, ii_add, S11 (by omega) (by omega), kb0, q98_56, i_4, ii_add, S11 (by omega) (by omega), kb0, q98_69, i_5, ii_add, S11 (by omega) (by omega), kb0, q98_82, i_6, ii_add, S11 (by omega) (by omega), kb0, ← hM1, q98_96, f1, i_1, i_40, i_0, e2, q98_118, up_d (by decide), f2, i_1, i_40, ii_add, ilt (by omega), q98_133]
    by_cases hc : 40 < A 0 8 + 1
    · rw [if_pos hc, if_pos hc]
    · rw [if_neg hc, if_neg hc]
  · refine ⟨g1, g2, by rw [up_s, if_neg (by decide), up_s, if_pos rfl], ?_, ?_, ?_, fun a k b1 b2 b3 b4 => ?_⟩
    · rw [up_s, if_pos rfl, logA_08]
    · rw [logA_08]
      split <;> omega
    · rw [logA_08]
      split <;> omega
    · have b2' : a < 40 ∧ a < A 0 8 + 1 := by
        rw [logA_08] at b2
        split at b2 <;> omega
      have hr : 0 ≤ lgR n2 a ∧ lgR n2 a < 40 := by unfold lgR; split <;> omega
      rw [cl_un (by omega), cl_un (by omega), c2 _ k hr.1 hr.2 b3 b4, g3 a b1 b2'.1, logA_70 (by omega)]
      by_cases ha : a = 0
      · subst ha
        rw [if_pos rfl, if_pos rfl, show 7 * (0 : Int) + k = k by omega, if_pos b4]
      · have hn : lgR nx (a - 1) ≠ nx := by unfold lgR; split <;> omega
        rw [if_neg ha, if_neg hn, if_neg (by omega), a7 (a - 1) k (by omega) (by omega) b3 b4, show 7 * a + k - 7 = 7 * (a - 1) + k by omega]
  · intro b hb hb2
    funext i
    rw [up_n hb, up_n hb, c1 b hb2]
end OPS
end STA
