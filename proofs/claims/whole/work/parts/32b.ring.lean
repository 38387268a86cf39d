/-! the ring: an item comes, goes, all goes on; counts -/
section RING2
set_option maxRecDepth 100000
variable {g : Nat} {N tu q : Int} {A : AT} {M : Mem} {X : PX}
theorem S89 {w s tk wt : Int} (h : RVt M g N A tu) (hl : RgL g) (h1 : 0 ≤ q) (h2 : q < N) : ∃ M', ev true 89 0 0 [pR 9 g, pI (ii q), pI (ii w), pI (ii s), pI (ii tk), pI (ii wt), p0] [] M X = some (.inl none, M', X) ∧
    RVt M' g N (upA (upA (upA (upA (upA A 20 q w) 21 q s) 22 q 0) 23 q tk) 24 q wt) tu ∧ ∀ b, b < g + 2 ∨ g + 12 < b → M' b = M b := by
  obtain ⟨c1, c2⟩ := cR_in h.1 h.2.1 h1 h2
  obtain ⟨l1, l2, l3, l4, l5, l6⟩ := hl
  have hN := h.2.2.1
  refine ⟨_, by rw [q89_0, S16 h h1 h2, kb1, q89_5, S11 c1 (by omega), kb0, q89_17, S11 c1 (by omega), kb0, q89_27, S11 c1 (by omega), kb0, q89_37, S11 c1 (by omega), kb0, q89_48, S11 c1 (by omega), kb0, q89_59], ?_, ?_⟩
  · obtain ⟨a1, a2, a3, a4, a5, a6⟩ := h
    refine ⟨a1, a2, a3, ?_, ?_, fun y y1 y2 => ?_⟩
    · rw [sc_n (by omega), sc_n (by omega), sc_n (by omega), sc_n (by omega), sc_n (by omega)]; exact a4
    · rw [sc_n (by omega), sc_n (by omega), sc_n (by omega), sc_n (by omega), sc_n (by omega)]; exact a5
    · obtain ⟨d1, d2⟩ := cR_in a1 a2 y1 y2
      obtain ⟨b1, b2, b3, b4, b5⟩ := a6 y y1 y2
      have e0 := cR_inj a1 a2 h1 h2 y1 y2
      simp (disch := omega) only [cl_sn, cl_sc, e0, upA_s, upA_n]
      by_cases hy : y = q
      · subst hy
        simp only [if_pos]
        exact ⟨by first | rfl | trivial, by first | rfl | trivial, by first | rfl | trivial, fun _ => ⟨by first | rfl | trivial, by first | rfl | trivial⟩, b5⟩
      · simp only [if_neg hy]
        exact ⟨b1, b2, b3, b4, b5⟩
  · intro b hb
    funext j
    rw [sc_n (by omega), sc_n (by omega), sc_n (by omega), sc_n (by omega), sc_n (by omega)]
theorem S86 (h : RVt M g N A tu) (hl : RgL g) (h1 : 0 ≤ q) (h2 : q < N) : ∃ M', ev true 86 0 0 [pR 9 g, pI (ii q), p0] [] M X = some (.inl none, M', X) ∧
    RVt M' g N (upA (upA (upA A 20 q (-1)) 21 q (-1)) 22 q (-1)) tu ∧ ∀ b, b < g + 2 ∨ g + 12 < b → M' b = M b := by
  obtain ⟨c1, c2⟩ := cR_in h.1 h.2.1 h1 h2
  obtain ⟨l1, l2, l3, l4, l5, l6⟩ := hl
  have hN := h.2.2.1
  refine ⟨_, by rw [q86_0, S16 h h1 h2, kb1, q86_5, S11 c1 (by omega), kb0, q86_15, S11 c1 (by omega), kb0, q86_24, S11 c1 (by omega), kb0, q86_33], ?_, ?_⟩
  · obtain ⟨a1, a2, a3, a4, a5, a6⟩ := h
    refine ⟨a1, a2, a3, ?_, ?_, fun y y1 y2 => ?_⟩
    · rw [sc_n (by omega), sc_n (by omega), sc_n (by omega)]; exact a4
    · rw [sc_n (by omega), sc_n (by omega), sc_n (by omega)]; exact a5
    · obtain ⟨d1, d2⟩ := cR_in a1 a2 y1 y2
      obtain ⟨b1, b2, b3, b4, b5⟩ := a6 y y1 y2
      have e0 := cR_inj a1 a2 h1 h2 y1 y2
      simp (disch := omega) only [cl_sn, cl_sc, e0, upA_s, upA_n]
      by_cases hy : y = q
      · subst hy
        simp only [if_pos]
        exact ⟨by first | rfl | trivial, by first | rfl | trivial, by first | rfl | trivial, fun z => absurd rfl z, b5⟩
      · simp only [if_neg hy]
        exact ⟨b1, b2, b3, b4, b5⟩
  · intro b hb
    funext j
    rw [sc_n (by omega), sc_n (by omega), sc_n (by omega)]
/-- all goes one place on -/
def prv (N q : Int) : Int := if q = 0 then N - 1 else q - 1
def advA (N : Int) (A : AT) : AT := fun f q => if 20 ≤ f ∧ f ≤ 25 ∧ 0 ≤ q ∧ q < N then (if f = 22 ∧ q = 0 ∧ A 20 (N - 1) ≠ -1 then A 22 (N - 1) + 1 else A f (prv N q)) else A f q
theorem S84 (h : RVt M g N A tu) (hl : RgL g) (h4 : 4 ≤ N) (h3 : -1 ≤ A 20 (N - 1) ∧ A 20 (N - 1) < 100) : ∃ M' tu', ev true 84 0 0 [pR 9 g, p0] [] M X = some (.inl none, M', X) ∧ RVt M' g N (advA N A) tu' ∧ ∀ b, b ≠ g → (b < g + 2 ∨ g + 12 < b) → M' b = M b := by
  obtain ⟨l1, l2, l3, l4, l5, l6⟩ := hl
  obtain ⟨a1, a2, a3, a4, a5, a6⟩ := h
  -- the new turn
  obtain ⟨t2, e2, t3, t4, t5⟩ : ∃ t2 : Int, (if M g 7 + 1 < M g 6 then ev true 84 0 24 [pR 9 g, p0] [pI (M g 7 + 1), pR 9 g] M X else ev true 84 0 24 [pR 9 g, p0] [pI 0, pR 9 g] M X) = ev true 84 0 24 [pR 9 g, p0] [pI (ii t2), pR 9 g] M X ∧ 0 ≤ t2 ∧ t2 < N ∧ (∀ q, 0 ≤ q → q < N → cR N t2 q = cR N tu (prv N q)) := by
    rw [a4, a5, i_1, ii_add, ilt (by omega)]
    by_cases hc : tu + 1 < N
    · refine ⟨tu + 1, by rw [if_pos hc], by omega, by omega, fun q q1 q2 => ?_⟩
      unfold cR prv
      split <;> split <;> split <;> omega
    · refine ⟨0, by rw [if_neg hc]; rfl, by omega, by omega, fun q q1 q2 => ?_⟩
      unfold cR prv
      split <;> split <;> split <;> omega
  have hr : RVt (upM M g 7 (ii t2)) g N (fun f q => if 20 ≤ f ∧ f ≤ 25 ∧ 0 ≤ q ∧ q < N then A f (prv N q) else A f q) t2 := by
    refine ⟨t3, t4, a3, by rw [up_s, if_pos rfl], by rw [up_s, if_neg (by decide)]; exact a5, fun q q1 q2 => ?_⟩
    have hp : 0 ≤ prv N q ∧ prv N q < N := by unfold prv; split <;> omega
    rw [t5 q q1 q2, cl_un (by omega), cl_un (by omega), cl_un (by omega), cl_un (by omega), cl_un (by omega), cl_un (by omega)]
    simp only [q1, q2, and_self, and_true]
    exact a6 (prv N q) hp.1 hp.2
  obtain ⟨c1, c2⟩ := cR_in t3 t4 (Int.le_refl 0) (by omega : (0 : Int) < N)
  have hq0 := hr.2.2.2.2.2 0 (Int.le_refl 0) (by omega)
  have hp0 : prv N 0 = N - 1 := by unfold prv; rw [if_pos rfl]
  have hb0 : (0 : Int) ≤ 0 ∧ (0 : Int) < N := ⟨Int.le_refl 0, by omega⟩
  have e20 := hq0.1
  simp only [hb0, and_self, and_true] at e20
  rw [hp0] at e20
  have e22 := hq0.2.2.1
  simp only [hb0, and_self, and_true] at e22
  rw [hp0] at e22
  have e20 : cl (upM M g 7 (ii t2)) (g + 1) (cR N t2 0) = ii (A 20 (N - 1)) := e20
  have e22 : cl (upM M g 7 (ii t2)) (g + 5) (cR N t2 0) = ii (A 22 (N - 1)) := e22
  rw [q84_0, e2, q84_24, i_0, S16 hr (Int.le_refl 0) (by omega), kb1, q84_32, S12 c1 (by omega), kb1, q84_41]
  show ∃ M' tu', (if cl (upM M g 7 (ii t2)) (g + 1) (cR N t2 0) = -1 then _ else _) = _ ∧ _
  rw [e20, ii_m1, ieq (by omega)]
  by_cases hw : A 20 (N - 1) = -1
  · rw [if_pos hw, q84_54]
    refine ⟨_, t2, rfl, ?_, fun b hb _ => by funext j; rw [up_n hb]⟩
    have e : advA N A = fun f q => if 20 ≤ f ∧ f ≤ 25 ∧ 0 ≤ q ∧ q < N then A f (prv N q) else A f q := by
      funext f q
      unfold advA
      by_cases hf : 20 ≤ f ∧ f ≤ 25 ∧ 0 ≤ q ∧ q < N
      · rw [if_pos hf, if_pos hf, if_neg (fun z => z.2.2 hw)]
      · rw [if_neg hf, if_neg hf]
    rw [e]
    exact hr
  · rw [if_neg hw, i_1]
    show ∃ M' tu', (ev true 15 0 0 [pR 8 (g + 5), pI (ii (cR N t2 0)), pI (ii (1))] [] (upM M g 7 (ii t2)) X).bind _ = _ ∧ _
    rw [S15 c1 (by omega), kb0, q84_54]
    refine ⟨_, t2, rfl, ?_, fun b hb hb2 => by funext j; rw [sc_n (by omega), up_n hb]⟩
    obtain ⟨b1, b2, b3, b4, b5, b6⟩ := hr
    refine ⟨b1, b2, b3, by rw [sc_n (by omega)]; exact b4, by rw [sc_n (by omega)]; exact b5, fun y y1 y2 => ?_⟩
    obtain ⟨d1, d2⟩ := cR_in b1 b2 y1 y2
    have e0 := cR_inj b1 b2 (Int.le_refl 0) (by omega : (0 : Int) < N) y1 y2
    have e9 := b6 y y1 y2
    simp only [y1, y2, and_self, and_true] at e9
    have e9 : cl (upM M g 7 (ii t2)) (g + 1) (cR N t2 y) = ii (A 20 (prv N y)) ∧ cl (upM M g 7 (ii t2)) (g + 3) (cR N t2 y) = ii (A 21 (prv N y)) ∧ cl (upM M g 7 (ii t2)) (g + 5) (cR N t2 y) = ii (A 22 (prv N y)) ∧ (A 20 (prv N y) ≠ -1 → cl (upM M g 7 (ii t2)) (g + 7) (cR N t2 y) = ii (A 23 (prv N y)) ∧ cl (upM M g 7 (ii t2)) (g + 9) (cR N t2 y) = ii (A 24 (prv N y))) ∧ cl (upM M g 7 (ii t2)) (g + 11) (cR N t2 y) = ii (A 25 (prv N y)) := e9
    obtain ⟨f1, f2, f3, f4, f5⟩ := e9
    have v20 : advA N A 20 y = A 20 (prv N y) := by unfold advA; rw [if_pos ⟨by decide, by decide, y1, y2⟩, if_neg (fun z => absurd z.1 (by decide))]
    have v21 : advA N A 21 y = A 21 (prv N y) := by unfold advA; rw [if_pos ⟨by decide, by decide, y1, y2⟩, if_neg (fun z => absurd z.1 (by decide))]
    have v23 : advA N A 23 y = A 23 (prv N y) := by unfold advA; rw [if_pos ⟨by decide, by decide, y1, y2⟩, if_neg (fun z => absurd z.1 (by decide))]
    have v24 : advA N A 24 y = A 24 (prv N y) := by unfold advA; rw [if_pos ⟨by decide, by decide, y1, y2⟩, if_neg (fun z => absurd z.1 (by decide))]
    have v25 : advA N A 25 y = A 25 (prv N y) := by unfold advA; rw [if_pos ⟨by decide, by decide, y1, y2⟩, if_neg (fun z => absurd z.1 (by decide))]
    have v22 : advA N A 22 y = if y = 0 then A 22 (N - 1) + 1 else A 22 (prv N y) := by
      unfold advA
      rw [if_pos ⟨by decide, by decide, y1, y2⟩]
      by_cases hy : y = 0
      · rw [if_pos ⟨rfl, hy, hw⟩, if_pos hy]
      · rw [if_neg (fun z => hy z.2.1), if_neg hy]
    rw [v20, v21, v22, v23, v24, v25]
    simp (disch := omega) only [cl_sn, cl_sc, e0]
    refine ⟨f1, f2, ?_, f4, f5⟩
    by_cases hy : y = 0
    · rw [if_pos hy, if_pos hy, e22, ii_add]
    · rw [if_neg hy, if_neg hy]; exact f3
end RING2
