/-! questions: the reference's pieces -/
section QRF
set_option maxRecDepth 100000
variable {z y a c lo hi v N x T j o fr st : Int} {M M' M0 M1 M2 : Mem} {X : PX} {n m i t b b' b1 b2 d k e F lv : Nat} {p : Int} {D : Nat → Int} {P : PS} {cs w ps : List Int} {q : Int × Nat} {A : AT} {G : Int → Int}
/-- the first of these that is x; none -/
def fnd (F : Int → Int) (x : Int) : Nat → Nat → Int
  | 0, _ => -1
  | m + 1, i => if F i = x then i else fnd F x m (i + 1)
theorem S49l (h27 : M 819 27 = ii p) (hp : 0 ≤ p ∧ p < 1000) (hk : k ≤ 100) (hg : ∀ i : Nat, i < k → (0 ≤ fr + st * (i : Int) ∧ fr + st * (i : Int) < 1434) ∧ rr M (fr + st * i) = ii (G i) ∧ 0 ≤ G i ∧ G i < 1000) : ∀ (m i : Nat), i + m = k → ev true 49 0 3 [pR 13 819, pI (ii fr), pI (ii st), pI (ii k), pI (ii i)] [] M X = some (.inl (some (pI (ii (fnd G p m i)))), M, X) := by
  intro m
  induction m with
  | zero =>
    intro i h1
    rw [q49_3, ltF (by omega), ii_m1]
    rfl
  | succ m ih =>
    intro i h1
    obtain ⟨g1, g2, g3, g4⟩ := hg i (by omega)
    have hi := ih (i + 1) (by omega)
    rw [q49_3, ltT (by omega), ii_mul, ii_add, inR g1, rr_i M g1, g2, h27, ieq (by omega)]
    unfold fnd
    by_cases c : G i = p
    · rw [if_pos c, if_pos c]
    · rw [if_neg c, if_neg c, i_1, ii_add]
      exact hi
theorem S49 (h27 : M 819 27 = ii p) (hp : 0 ≤ p ∧ p < 1000) (hk : k ≤ 100) (hg : ∀ i : Nat, i < k → (0 ≤ fr + st * (i : Int) ∧ fr + st * (i : Int) < 1434) ∧ rr M (fr + st * i) = ii (G i) ∧ 0 ≤ G i ∧ G i < 1000) : ev true 49 0 0 [pR 13 819, pI (ii fr), pI (ii st), pI (ii k), p0] [] M X = some (.inl (some (pI (ii (fnd G p k 0)))), M, X) := by
  have := S49l (X := X) h27 hp hk hg k 0 (by omega)
  rw [q49_0, i_0]
  exact this
/-- what a question can ask of a place -/
def pvP (A : AT) (p : Int) : Int → Int32 := fun k => if k = 0 then ii p else if k = 1 then ii (A 20 p) else if k = 2 then ii (A 21 p) else if k = 3 then ii (A 22 p) else if k = 4 then ii (if A 20 p = -1 then -1 else A 0 5 - A 23 p) else if k = 5 then ii (A 25 p) else if k = 6 then ii (fnd (A 30) p (A 0 1).toNat 0) else ii (fnd (A 40) p (A 0 3).toNat 0)
noncomputable def qvV (D : Nat → Int) (n b : Nat) (pv : Int → Int32) : Int32 := if qaI D n b = -1 then ii (nuV D n b) else pv (qaI D n b)
def EQ (M : Mem) (A : AT) (T p : Int) : Prop := WR M A T ∧ (0 ≤ p ∧ p < A 0 0) ∧ M 819 27 = ii p
theorem EQ.mv (h : EQ M A T p) (hf : FrP M M') : EQ M' A T p := ⟨WR_k h.1 (hf.1 820 (by decide)), h.2.1, (hf.2 27 (by omega)).trans h.2.2⟩
theorem S254 (h : RTP M D n P) (hq : EQ M A T p) : ∃ M' v, ev true 254 0 0 [pR 13 819, p0] [] M X = some (.inl (some (pI v)), M', X) ∧ RTP M' D n (vlS D n P) ∧ FrP M M' ∧ ∀ b, P = .inl b → iF (vlS D n P) → v = qvV D n b (pvP A p) := by
  obtain ⟨hw, hp, h27⟩ := hq
  have g := hw.2.1.1
  have hr := hw.1
  obtain ⟨M1, v, a1, a2, a3, a4, a5⟩ := S218 (X := X) (lo := 0) (hi := 9999) h (by omega) (by omega)
  have num : ∀ z1 : PV, ev true 254 0 15 [pR 13 819, z1] [] M X = some (.inl (some (pI (ii v))), M1, X) := fun z1 => by
    rw [q254_15, i_0, i_9999, a1, kb1, q254_23]
  cases P with
  | inr q =>
    obtain ⟨f, pp⟩ := q
    have g1 := h.2.1
    have g2 := h.2.2.1
    exact ⟨M1, ii v, by rw [q254_0, g1, i_0, eqF (by omega), num], a2, a3, fun b e => by cases e⟩
  | inl b =>
    have b23 := h.2.2.2.2.2.2
    have b20 := h.2.2.2.2.2.1
    have hk := tk_in (D := D) (n := n) b
    by_cases c2 : tK D n b = 2
    · have hqa : qaI D n b = -1 := by
        by_cases e : qaI D n b = -1
        · exact e
        · have := qa_wd e; omega
      have e2 : vlS D n (.inl b) = numS D n 0 9999 (.inl b) := by rw [vlS_l, if_pos hqa]
      rw [e2]
      refine ⟨M1, ii v, by rw [q254_0, b23, i_0, eqT rfl, b20, c2, i_2, eqT rfl, num], a2, a3, fun b' e w => ?_⟩
      cases e
      rw [(a5 w).1]
      unfold qvV
      rw [if_pos hqa]
      rfl
    · have fin : ∀ (v : Int32) (k : Int), qaI D n b = k → 0 ≤ k → v = pvP A p k → ∃ M' v', ev true 254 0 218 [pR 13 819, pI v] [] M X = some (.inl (some (pI v')), M', X) ∧ RTP M' D n (vlS D n (.inl b)) ∧ FrP M M' ∧ ∀ b', (.inl b : PS) = .inl b' → iF (vlS D n (.inl b)) → v' = qvV D n b' (pvP A p) := by
        intro v k h1 h2 h3
        obtain ⟨M', c1, c2, c3⟩ := S192 (X := X) h
        have e2 : vlS D n (.inl b) = .inl (nxD D n b) := by rw [vlS_l, if_neg (by omega)]
        refine ⟨M', v, by rw [q254_218, c1, kb0, q254_222], by rw [e2]; exact c2, c3, fun b' e w => ?_⟩
        cases e
        unfold qvV
        rw [if_neg (by omega), h1, h3]
      have pl := hr.2.2.2.2.2.1 p hp.1 hp.2
      have rd : ∀ k : Int, 0 ≤ k → k < 6 → ev true 24 0 0 [pR 13 819, pI (ii p), pI (ii k)] [] M X = some (.inl (some (pI (rr M (174 + 6 * p + k)))), M, X) := fun k k0 k1 => S24 (by omega)
      have pre : ev true 254 0 0 [pR 13 819, p0] [] M X = ev true 254 0 33 [pR 13 819, pI (-1)] [pI (bI (wdB D n b 12))] M X := by
        rw [q254_0, b23, i_0, eqT rfl, b20, i_2, eqF (by omega), S238 h, kb1]
        rfl
      rw [pre, q254_33, i_0, bIT]
      cases c1 : wdB D n b 12 with
      | true =>
        rw [cond_true, h27]
        exact fin _ 0 (by unfold qaI; rw [c1]; rfl) (by omega) rfl
      | false =>
      rw [cond_false, S238 h, kb1, wdR_l, q254_51, i_0, bIT]
      cases c2 : wdB D n b 21 with
      | true =>
        rw [cond_true, h27, rd 0 (by omega) (by omega), kb1, q254_63, pl.1]
        exact fin _ 1 (by unfold qaI; rw [c1, c2]; rfl) (by omega) rfl
      | false =>
      rw [cond_false, S238 h, kb1, wdR_l, q254_74, i_0, bIT]
      cases c3 : wdB D n b 6 with
      | true =>
        rw [cond_true, h27, i_1, rd 1 (by omega) (by omega), kb1, q254_86, pl.2.1]
        exact fin _ 2 (by unfold qaI; rw [c1, c2, c3]; rfl) (by omega) rfl
      | false =>
      rw [cond_false, S238 h, kb1, wdR_l, q254_97, i_0, bIT]
      cases c4 : wdB D n b 15 with
      | true =>
        rw [cond_true, h27, i_2, rd 2 (by omega) (by omega), kb1, q254_109, pl.2.2.1]
        exact fin _ 3 (by unfold qaI; rw [c1, c2, c3, c4]; rfl) (by omega) rfl
      | false =>
      rw [cond_false, S238 h, kb1, wdR_l, q254_120, i_0, bIT]
      cases c5 : wdB D n b 13 with
      | true =>
        rw [cond_true, h27, S111 hw hp.1 hp.2, kb1, q254_131]
        exact fin _ 4 (by unfold qaI; rw [c1, c2, c3, c4, c5]; rfl) (by omega) rfl
      | false =>
      rw [cond_false, S238 h, kb1, wdR_l, q254_142, i_0, bIT]
      cases c6 : wdB D n b 7 with
      | true =>
        rw [cond_true, h27, i_5, rd 5 (by omega) (by omega), kb1, q254_154, pl.2.2.2.2]
        exact fin _ 5 (by unfold qaI; rw [c1, c2, c3, c4, c5, c6]; rfl) (by omega) rfl
      | false =>
      rw [cond_false, S238 h, kb1, wdR_l, q254_165, i_0, bIT]
      cases c7 : wdB D n b 4 with
      | true =>
        have e1 : M 820 1 = ii ((A 0 1).toNat : Nat) := by
          have := hr.1 1 (by omega) (by omega)
          unfold rr at this
          rw [show ((A 0 1).toNat : Int) = A 0 1 by omega]
          exact this
        have hS := S49 (X := X) (k := (A 0 1).toNat) (fr := 12) (st := 5) (G := A 30) h27 (by omega) (by omega) (fun i hi => by
          obtain ⟨x1, x2, -⟩ := hr.2.1 i (by omega) (by omega)
          have ix := hw.2.1.2.1 i (by omega) (by omega)
          rw [Int.add_zero] at x1
          exact ⟨by omega, x1, by omega, by omega⟩)
        rw [cond_true, i_1, inR (by omega), i_12, i_5, e1, hS, kb1, q254_181]
        exact fin _ 6 (by unfold qaI; rw [c1, c2, c3, c4, c5, c6, c7]; rfl) (by omega) rfl
      | false =>
      rw [cond_false, S238 h, kb1, wdR_l, q254_192, i_0, bIT]
      cases c8 : wdB D n b 17 with
      | true =>
        have e1 : M 820 3 = ii ((A 0 3).toNat : Nat) := by
          have := hr.1 3 (by omega) (by omega)
          unfold rr at this
          rw [show ((A 0 3).toNat : Int) = A 0 3 by omega]
          exact this
        have hS := S49 (X := X) (k := (A 0 3).toNat) (fr := 66) (st := 10) (G := A 40) h27 (by omega) (by omega) (fun i hi => by
          obtain ⟨x1, x2, -⟩ := hr.2.2.2.1 i (by omega) (by omega)
          have ix := hw.2.1.2.2.2.1 i (by omega) (by omega)
          rw [Int.add_zero] at x1
          exact ⟨by omega, x1, by omega, by omega⟩)
        rw [cond_true, i_3, inR (by omega), i_66, i_10, e1, hS, kb1, q254_209]
        exact fin _ 7 (by unfold qaI; rw [c1, c2, c3, c4, c5, c6, c7, c8]; rfl) (by omega) rfl
      | false =>
        have hqa : qaI D n b = -1 := by unfold qaI; rw [c1, c2, c3, c4, c5, c6, c7, c8]; rfl
        obtain ⟨M2, d1, d2, d3⟩ := S46 (X := X) h (c := 1) (by omega)
        obtain ⟨M3, f1, f2, f3⟩ := S192 (X := X) d2
        have e2 : vlS D n (.inl b) = .inr (1, b) := by rw [vlS_l, if_pos hqa, numS_l, if_neg (by assumption)]
        refine ⟨M3, -1, by rw [cond_false, i_1, d1, kb0, q254_218, f1, kb0, q254_222], by rw [e2]; exact f2, d3.tr f3, fun b' e w => ?_⟩
        rw [e2] at w
        exact niF w
def cmV (o : Int) (x y : Int32) : Bool := if o = -14 then decide (x < y) else if o = -15 then decide (x = y) else decide (y < x)
noncomputable def fcV (D : Nat → Int) (n b : Nat) (pv : Int → Int32) : Bool := cmV (cmC D n (nxD D n b)) (qvV D n b pv) (qvV D n (nxD D n (nxD D n b)) pv)
noncomputable def fcP (D : Nat → Int) (n : Nat) : PS → PS
  | .inl b => fcS D n b
  | .inr q => .inr q
def sgC (s : Int) (x y : Int32) : Bool := if s < 0 then decide (x < y) else if s = 0 then decide (x = y) else decide (y < x)
theorem S295e {s : Int} {x1 y0 : Int32} {z0 z3 : PV} (hs : -1 ≤ s ∧ s ≤ 2) : ev true 295 lv 139 [z0, pI x1, pI (ii s), z3] [pI y0] M X = some (.inl (some (pI (bI (sgC s x1 y0)))), M, X) := by
  unfold sgC
  rw [q295_139, i_0, ilt (by omega), ieq (by omega)]
  have one : ∀ z3 : PV, ev true 295 lv 184 [z0, pI x1, pI (ii s), z3] [pI 1] M X = some (.inl (some (pI (bI true))), M, X) := fun z3 => by
    rw [q295_184, i_1, rk1]; rfl
  have zer : ∀ z3 : PV, ev true 295 lv 184 [z0, pI x1, pI (ii s), z3] [pI (ii 0)] M X = some (.inl (some (pI (bI false))), M, X) := fun z3 => by
    rw [q295_184, rk0]; rfl
  by_cases c : s < 0
  · rw [if_pos c, if_pos c]
    by_cases d : x1 < y0
    · rw [if_pos d, decide_eq_true d, one]
    · rw [if_neg d, decide_eq_false d, zer]
  · rw [if_neg c, if_neg c]
    by_cases c2 : s = 0
    · rw [if_pos c2, if_pos c2]
      by_cases d : x1 = y0
      · rw [if_pos d, decide_eq_true d, one]
      · rw [if_neg d, decide_eq_false d, zer]
    · rw [if_neg c2, if_neg c2]
      by_cases d : y0 < x1
      · rw [if_pos d, decide_eq_true d, one]
      · rw [if_neg d, decide_eq_false d, zer]
/-- a comparison, or what goes on behind a fault -/
theorem R295g (h : RTP M D n P) (hq : EQ M A T p) (h0 : wdR D n 10 P = false) (h1 : sgR D n 123 P = false) : ∃ M' r, ev true 295 lv 0 [pR 13 819, p0, p0, p0] [] M X = some (.inl (some (pI (bI r))), M', X) ∧ RTP M' D n (fcP D n P) ∧ FrP M M' ∧ ∀ b, P = .inl b → iF (fcS D n b) → r = fcV D n b (pvP A p) := by
  obtain ⟨M1, v1, a1, a2, a3, a4⟩ := S254 (X := X) h hq
  have pre : ev true 295 lv 0 [pR 13 819, p0, p0, p0] [] M X = ev true 295 lv 79 [pR 13 819, p0, p0, p0] [pI v1] M1 X := by
    rw [q295_0, S238 h, kb1, q295_7, i_0, bIT, h0, cond_false, i_123, S47 h (by omega), kb1, q295_45, i_0, bIT, h1, cond_false, a1, kb1]
  obtain ⟨P1, eP1⟩ : ∃ P1, P1 = vlS D n P := ⟨_, rfl⟩
  rw [← eP1] at a2 a4
  -- the sign
  obtain ⟨s, s1, s2, s3⟩ : ∃ s : Int, (-1 ≤ s ∧ s ≤ 2) ∧ ev true 295 lv 79 [pR 13 819, p0, p0, p0] [pI v1] M1 X = ev true 295 lv 120 [pR 13 819, pI v1, p0, p0] [pI (ii s)] M1 X ∧ (match P1 with | .inr _ => s = 2 | .inl b1 => (s = 2 ∧ cmC D n b1 = 0) ∨ (s ≠ 2 ∧ cmC D n b1 ≠ 0 ∧ ∀ x y, sgC s x y = cmV (cmC D n b1) x y)) := by
    have go : ev true 295 lv 79 [pR 13 819, p0, p0, p0] [pI v1] M1 X = ev true 295 lv 120 [pR 13 819, pI v1, p0, p0] [pI (ii (bif sgR D n 60 P1 then -1 else bif sgR D n 61 P1 then 0 else bif sgR D n 62 P1 then 1 else 2))] M1 X := by
      rw [q295_79, i_60, S47 a2 (by omega), kb1, q295_86, i_0, bIT]
      cases k1 : sgR D n 60 P1 with
      | true => rw [cond_true, cond_true, ii_m1]
      | false =>
      rw [cond_false, cond_false, i_61, S47 a2 (by omega), kb1, q295_99, i_0, bIT]
      cases k2 : sgR D n 61 P1 with
      | true => rw [cond_true, cond_true]
      | false =>
      rw [cond_false, cond_false, i_62, S47 a2 (by omega), kb1, q295_112, i_0, bIT]
      cases k3 : sgR D n 62 P1 with
      | true => rw [cond_true, cond_true, i_1]
      | false => rw [cond_false, cond_false, i_2]
    refine ⟨_, ?_, go, ?_⟩
    · cases sgR D n 60 P1
      · cases sgR D n 61 P1
        · cases sgR D n 62 P1
          · show (-1 : Int) ≤ 2 ∧ (2 : Int) ≤ 2; omega
          · show (-1 : Int) ≤ 1 ∧ (1 : Int) ≤ 2; omega
        · show (-1 : Int) ≤ 0 ∧ (0 : Int) ≤ 2; omega
      · show (-1 : Int) ≤ -1 ∧ (-1 : Int) ≤ 2; omega
    · cases P1 with
      | inr q => rfl
      | inl b1 =>
        show ((bif sgB D n b1 60 then (-1 : Int) else bif sgB D n b1 61 then 0 else bif sgB D n b1 62 then 1 else 2) = 2 ∧ cmC D n b1 = 0) ∨ ((bif sgB D n b1 60 then (-1 : Int) else bif sgB D n b1 61 then 0 else bif sgB D n b1 62 then 1 else 2) ≠ 2 ∧ cmC D n b1 ≠ 0 ∧ ∀ x y, sgC (bif sgB D n b1 60 then (-1 : Int) else bif sgB D n b1 61 then 0 else bif sgB D n b1 62 then 1 else 2) x y = cmV (cmC D n b1) x y)
        unfold cmC
        cases k1 : sgB D n b1 60 with
        | true => exact Or.inr ⟨(by decide : (-1 : Int) ≠ 2), by rw [if_pos rfl]; decide, fun x y => rfl⟩
        | false =>
        cases k2 : sgB D n b1 61 with
        | true => exact Or.inr ⟨(by decide : (0 : Int) ≠ 2), by rw [if_neg Bool.false_ne_true, if_pos rfl]; decide, fun x y => rfl⟩
        | false =>
        cases k3 : sgB D n b1 62 with
        | true => exact Or.inr ⟨(by decide : (1 : Int) ≠ 2), by rw [if_neg Bool.false_ne_true, if_neg Bool.false_ne_true, if_pos rfl]; decide, fun x y => rfl⟩
        | false => exact Or.inl ⟨rfl, by rw [if_neg Bool.false_ne_true, if_neg Bool.false_ne_true, if_neg Bool.false_ne_true]⟩
  obtain ⟨Pw, M2, w1, w2, w3, w4⟩ : ∃ Pw M2, ev true 295 lv 120 [pR 13 819, pI v1, p0, p0] [pI (ii s)] M1 X = ev true 295 lv 131 [pR 13 819, pI v1, pI (ii s), p0] [] M2 X ∧ RTP M2 D n Pw ∧ FrP M1 M2 ∧ Pw = if s = 2 then failS 1 P1 else P1 := by
    rw [q295_120, i_2, ieq (by omega)]
    by_cases c : s = 2
    · obtain ⟨M2, b1, b2, b3⟩ := S46 (X := X) a2 (c := 1) (by omega)
      exact ⟨_, M2, by rw [if_pos c, i_1, b1, kb0], b2, b3, by rw [if_pos c]⟩
    · exact ⟨P1, M1, by rw [if_neg c], a2, FrP.rf, by rw [if_neg c]⟩
  obtain ⟨M3, c1, c2, c3⟩ := S192 (X := X) w2
  have hq3 : EQ M3 A T p := ((hq.mv a3).mv w3).mv c3
  obtain ⟨M4, v2, d1, d2, d3, d4⟩ := S254 (X := X) c2 hq3
  have eF : vlS D n (nextS D n Pw) = fcP D n P := by
    cases P with
    | inr q =>
      subst eP1
      have s3 : s = 2 := s3
      rw [w4, if_pos s3]
      rfl
    | inl b =>
      show _ = fcS D n b
      unfold fcS
      rw [← eP1]
      cases P1 with
      | inr q =>
        have s3 : s = 2 := s3
        rw [w4, if_pos s3]
        rfl
      | inl b1 =>
        have s3 : (s = 2 ∧ cmC D n b1 = 0) ∨ (s ≠ 2 ∧ cmC D n b1 ≠ 0 ∧ ∀ x y, sgC s x y = cmV (cmC D n b1) x y) := s3
        show _ = if cmC D n b1 = 0 then _ else _
        rcases s3 with ⟨e1, e2⟩ | ⟨e1, e2, e3⟩
        · rw [w4, if_pos e1, if_pos e2]; rfl
        · rw [w4, if_neg e1, if_neg e2]; rfl
  refine ⟨M4, sgC s v1 v2, ?_, by rw [← eF]; exact d2, a3.tr (w3.tr (c3.tr d3)), fun b hb wf => ?_⟩
  · rw [pre, s2, w1, q295_131, c1, kb0, q295_135, d1, kb1, S295e s1]
  · subst hb
    have hbn := h.2.1
    obtain ⟨b', hb'⟩ := wf
    obtain ⟨f1, f2, f3, f4, f5, f6⟩ := fc_in hb' hbn
    rw [f4] at eP1
    subst eP1
    have s3 : (s = 2 ∧ cmC D n (nxD D n b) = 0) ∨ (s ≠ 2 ∧ cmC D n (nxD D n b) ≠ 0 ∧ ∀ x y, sgC s x y = cmV (cmC D n (nxD D n b)) x y) := s3
    rcases s3 with ⟨e1, e2⟩ | ⟨e1, e2, e3⟩
    · exact absurd e2 f5
    · have hPw : nextS D n Pw = .inl (nxD D n (nxD D n b)) := by rw [w4, if_neg e1]; rfl
      have hv1 : v1 = qvV D n b (pvP A p) := a4 b rfl ⟨_, rfl⟩
      have hv2 : v2 = qvV D n (nxD D n (nxD D n b)) (pvP A p) := d4 _ hPw (by rw [hPw, f6]; exact ⟨_, rfl⟩)
      rw [e3, hv1, hv2]
      rfl
theorem R295f (h : RTP M D n (.inr q)) (hq : EQ M A T p) : ∃ M' r, ev true 295 lv 0 [pR 13 819, p0, p0, p0] [] M X = some (.inl (some (pI (bI r))), M', X) ∧ RTP M' D n (.inr q) ∧ FrP M M' := by
  obtain ⟨M', r, a1, a2, a3, -⟩ := R295g (lv := lv) (X := X) h hq rfl rfl
  exact ⟨M', r, a1, a2, a3⟩
theorem R294f5 {r : Bool} {z2 : PV} (h : RTP M D n (.inr q)) : ev true 294 lv 5 [pR 13 819, pI (bI r), z2] [] M X = some (.inl (some (pI (bI r))), M, X) := by
  rw [q294_5, S238 h, kb1, q294_12, i_0, bIT, show wdR D n 0 (.inr q) = false from rfl, cond_false, rkT]
theorem R294f (h : RTP M D n (.inr q)) (hq : EQ M A T p) (hl : lv < 40) : ∃ M' r, ev true 294 lv 0 [pR 13 819, p0, p0] [] M X = some (.inl (some (pI (bI r))), M', X) ∧ RTP M' D n (.inr q) ∧ FrP M M' := by
  obtain ⟨M', r, a1, a2, a3⟩ := R295f (lv := lv + 1) (X := X) h hq
  exact ⟨M', r, by rw [q294_0, blt40 hl, cond_true, a1, kb1, q294_4, R294f5 a2], a2, a3⟩
theorem R293f5 {r : Bool} {z2 : PV} (h : RTP M D n (.inr q)) : ev true 293 lv 5 [pR 13 819, pI (bI r), z2] [] M X = some (.inl (some (pI (bI r))), M, X) := by
  rw [q293_5, S238 h, kb1, q293_12, i_0, bIT, show wdR D n 11 (.inr q) = false from rfl, cond_false, rkT]
theorem R293f (h : RTP M D n (.inr q)) (hq : EQ M A T p) (hl : lv < 39) : ∃ M' r, ev true 293 lv 0 [pR 13 819, p0, p0] [] M X = some (.inl (some (pI (bI r))), M', X) ∧ RTP M' D n (.inr q) ∧ FrP M M' := by
  obtain ⟨M', r, a1, a2, a3⟩ := R294f (lv := lv + 1) (X := X) h hq (by omega)
  exact ⟨M', r, by rw [q293_0, blt40 (by omega), cond_true, a1, kb1, q293_4, R293f5 a2], a2, a3⟩
end QRF
