/-! what a text has told, as a state; both sides -/
section FRS
set_option maxRecDepth 100000
variable {z y a c lo hi v N x T k j : Int} {M M' M0 M1 M2 : Mem} {X : PX} {n m i p t b b' d ne f e f' e' : Nat} {D E : Nat → Int} {P Q : PS} {R R' : Int → Int} {cs cs' : List Int} {A : AT}
/-- the state that a text tells -/
def bgA (R : Int → Int) (cs : List Int) : AT := fun f k =>
  if f = 0 then R k else if f = 20 then -1 else if f = 21 then -1 else if f = 22 then -1 else if f = 25 then -1
  else if f = 26 then R (42 + 3 * k) else if f = 27 then R (43 + 3 * k) else if f = 28 then R (44 + 3 * k)
  else if f = 30 then R (12 + 5 * k) else if f = 31 then R (13 + 5 * k) else if f = 32 then R (14 + 5 * k) else if f = 33 then R (15 + 5 * k) else if f = 34 then R (16 + 5 * k)
  else if f = 40 then R (66 + 10 * k) else if f = 41 then R (67 + 10 * k) else if f = 42 then R (68 + 10 * k) else if f = 43 then R (69 + 10 * k) else if f = 44 then R (70 + 10 * k) else if f = 45 then R (71 + 10 * k) else if f = 46 then R (72 + 10 * k) else if f = 47 then R (73 + 10 * k) else if f = 48 then R (74 + 10 * k) else if f = 49 then R (75 + 10 * k)
  else if f = 50 then R (126 + 4 * k) else if f = 51 then R (127 + 4 * k) else if f = 52 then R (128 + 4 * k) else if f = 53 then R (129 + 4 * k)
  else if f = 80 then cs.getD k.toNat 0 else if f = 81 then cs.length else 0
theorem bg_0 : bgA R cs 0 k = R k := rfl
theorem bg_20 : bgA R cs 20 k = -1 := rfl
theorem bg_21 : bgA R cs 21 k = -1 := rfl
theorem bg_22 : bgA R cs 22 k = -1 := rfl
theorem bg_25 : bgA R cs 25 k = -1 := rfl
theorem bg_26 : bgA R cs 26 k = R (42 + 3 * k) := rfl
theorem bg_27 : bgA R cs 27 k = R (43 + 3 * k) := rfl
theorem bg_28 : bgA R cs 28 k = R (44 + 3 * k) := rfl
theorem bg_30 : bgA R cs 30 k = R (12 + 5 * k) := rfl
theorem bg_31 : bgA R cs 31 k = R (13 + 5 * k) := rfl
theorem bg_32 : bgA R cs 32 k = R (14 + 5 * k) := rfl
theorem bg_33 : bgA R cs 33 k = R (15 + 5 * k) := rfl
theorem bg_34 : bgA R cs 34 k = R (16 + 5 * k) := rfl
theorem bg_35 : bgA R cs 35 k = 0 := rfl
theorem bg_40 : bgA R cs 40 k = R (66 + 10 * k) := rfl
theorem bg_41 : bgA R cs 41 k = R (67 + 10 * k) := rfl
theorem bg_42 : bgA R cs 42 k = R (68 + 10 * k) := rfl
theorem bg_43 : bgA R cs 43 k = R (69 + 10 * k) := rfl
theorem bg_44 : bgA R cs 44 k = R (70 + 10 * k) := rfl
theorem bg_45 : bgA R cs 45 k = R (71 + 10 * k) := rfl
theorem bg_46 : bgA R cs 46 k = R (72 + 10 * k) := rfl
theorem bg_47 : bgA R cs 47 k = R (73 + 10 * k) := rfl
theorem bg_48 : bgA R cs 48 k = R (74 + 10 * k) := rfl
theorem bg_49 : bgA R cs 49 k = R (75 + 10 * k) := rfl
theorem bg_50 : bgA R cs 50 k = R (126 + 4 * k) := rfl
theorem bg_51 : bgA R cs 51 k = R (127 + 4 * k) := rfl
theorem bg_52 : bgA R cs 52 k = R (128 + 4 * k) := rfl
theorem bg_53 : bgA R cs 53 k = R (129 + 4 * k) := rfl
theorem bg_80 : bgA R cs 80 k = cs.getD k.toNat 0 := rfl
theorem bg_81 : bgA R cs 81 k = cs.length := rfl
theorem bg_90 : bgA R cs 90 k = 0 := rfl
theorem cnI_no : ∀ n : Nat, cnI (fun _ => false) n = 0
  | 0 => rfl
  | n + 1 => by
    rw [cnI_1, cnI_no n]
    rfl
/-- what lies bare behind a text -/
theorem bl_s (h : BlI R) (h0 : 0 ≤ j) (h6 : j < 6) (hk : 70 ≤ k ∧ k ≤ 75) : R (k + 10 * j) = 0 := by
  obtain ⟨q, rfl⟩ := natOf h0
  have := h.2.2.2.1 q (by omega) (k - 66) (by omega) (by omega)
  rwa [show 66 + 10 * (q : Int) + (k - 66) = k + 10 * q by omega] at this
theorem bl_e (h : BlI R) (h0 : 0 ≤ j) (h6 : j < 6) : R (14 + 5 * j) = 0 ∧ R (16 + 5 * j) = 0 := by
  obtain ⟨q, rfl⟩ := natOf h0
  exact h.2.1 q (by omega)
theorem bl_w (h : BlI R) (h0 : 0 ≤ j) (h6 : j < 8) : R (44 + 3 * j) = 0 := by
  obtain ⟨q, rfl⟩ := natOf h0
  exact h.2.2.1 q (by omega)
theorem bg_INV (hi : RdI R) : INV (bgA R cs) 0 := by
  obtain ⟨g, ge, gw, gs, gc, gb⟩ := hi
  have b5 := gb.1 5 (by omega) (by omega)
  have b8 := gb.1 8 (by omega) (by omega)
  refine ⟨?_, fun e e0 e1 => ?_, fun w w0 w1 => ?_, fun s s0 s1 => ?_, fun s s0 s1 => ?_, fun c c0 c1 => ?_, fun q q0 q1 => ?_⟩
  · simp only [bg_0]; omega
  · rw [bg_0] at e1
    obtain ⟨h1, h2⟩ := bl_e gb e0 (by omega)
    obtain ⟨q, rfl⟩ := natOf e0
    have := ge q e1
    refine ⟨?_, ?_, ?_, ?_, ?_, ?_, ?_, ?_, fun w => rfl, fun w => ?_⟩
    all_goals first | (rw [bg_33] at w; omega) | (simp only [bg_0, bg_30, bg_31, bg_32, bg_33]; omega)
  · rw [bg_0] at w1
    obtain ⟨q, rfl⟩ := natOf w0
    have := gw q w1
    simp only [bg_0, bg_26, bg_27]
    omega
  · rw [bg_0] at s1
    have h1 := bl_s gb (k := 70) s0 (by omega) (by omega)
    have h2 := bl_s gb (k := 75) s0 (by omega) (by omega)
    obtain ⟨q, rfl⟩ := natOf s0
    have := gs q s1
    refine ⟨?_, ?_, ?_, ?_, ?_, ?_, ?_, ?_, ?_, ?_, ?_, ?_, fun k k0 k1 => ?_⟩
    all_goals first | (rw [bg_44] at k1; omega) | (simp only [bg_0, bg_40, bg_41, bg_42, bg_43, bg_44, bg_49]; omega)
  · rw [bg_44]
    rw [bg_0] at s0
    exact bl_s gb (k := 70) (by omega) s1 (by omega)
  · rw [bg_0] at c1
    obtain ⟨q, rfl⟩ := natOf c0
    have := gc q c1
    simp only [bg_0, bg_50, bg_51, bg_52, bg_53]
    omega
  · refine ⟨?_, ?_, ?_, ?_, ?_, ?_, fun w => absurd bg_20 w, fun w => ⟨bg_21, bg_22⟩⟩
    all_goals (simp only [bg_0, bg_20, bg_21, bg_25]; omega)
theorem bg_PW (hi : RdI R) (hl : LW (bgA R cs)) : PW (bgA R cs) 0 := by
  have gb := hi.2.2.2.2.2
  have b5 := gb.1 5 (by omega) (by omega)
  have b6 := gb.1 6 (by omega) (by omega)
  have b7 := gb.1 7 (by omega) (by omega)
  have g := hi.1
  refine ⟨bg_INV hi, fun j j0 j1 => ?_, hl, ⟨?_, ?_, ?_⟩, fun j j0 j1 => ?_⟩
  · rw [bg_90, show (fun q => decide (bgA R cs 25 q = j)) = fun _ => false from funext fun q => decide_eq_false (by rw [bg_25]; omega), cnI_no]
  · unfold s6
    rw [bg_0, b6, bg_34, bg_34, bg_34, bg_34, bg_34, bg_34, (bl_e gb (by omega) (by omega)).2, (bl_e gb (by omega) (by omega)).2, (bl_e gb (by omega) (by omega)).2, (bl_e gb (by omega) (by omega)).2, (bl_e gb (by omega) (by omega)).2, (bl_e gb (by omega) (by omega)).2]
    rfl
  · unfold s6
    rw [bg_0, b6, bg_47, bg_47, bg_47, bg_47, bg_47, bg_47, bl_s gb (by omega) (by omega) (by omega), bl_s gb (by omega) (by omega) (by omega), bl_s gb (by omega) (by omega) (by omega), bl_s gb (by omega) (by omega) (by omega), bl_s gb (by omega) (by omega) (by omega), bl_s gb (by omega) (by omega) (by omega)]
    rfl
  · unfold s6
    rw [bg_0, b7, bg_48, bg_48, bg_48, bg_48, bg_48, bg_48, bl_s gb (by omega) (by omega) (by omega), bl_s gb (by omega) (by omega) (by omega), bl_s gb (by omega) (by omega) (by omega), bl_s gb (by omega) (by omega) (by omega), bl_s gb (by omega) (by omega) (by omega), bl_s gb (by omega) (by omega) (by omega)]
    rfl
  · rw [bg_0] at j1
    have := bl_s gb (k := 72) j0 (by omega) (by omega)
    rw [bg_46, bg_0]
    omega
theorem getD_i (l : List Int) (i : Nat) (h : i < l.length) : l.getD i 0 = l[i] := by
  rw [List.getD_eq_getElem?_getD, List.getElem?_eq_getElem h]
  rfl
theorem codeL_bg : codeL (bgA R cs) = cs := by
  unfold codeL
  rw [bg_81]
  apply List.ext_getElem
  · rw [List.length_map, List.length_range']
    omega
  · intro i h1 h2
    rw [List.getElem_map, List.getElem_range', bg_80]
    rw [show (((0 + 1 * i : Nat) : Int)).toNat = i by omega]
    exact getD_i cs i h2
theorem CD_at {M : Mem} {t : Nat} : ∀ {cs : List Int} {i : Int}, CD M t i cs → ∀ j : Nat, j < cs.length → cl M t (i + j) = ii (cs.getD j 0) ∧ -100 ≤ cs.getD j 0 ∧ cs.getD j 0 < 100000
  | [], _, _ => fun j hj => absurd hj (Nat.not_lt_zero _)
  | c :: cs, i, h => fun j hj => by
    cases j with
    | zero =>
      rw [show i + ((0 : Nat) : Int) = i by omega]
      exact ⟨h.1, h.2.1⟩
    | succ j =>
      have := CD_at h.2.2 j (by rw [List.length_cons] at hj; omega)
      rw [show i + 1 + (j : Int) = i + ((j + 1 : Nat) : Int) by omega] at this
      exact this
theorem bg_LW (hf : FV M 30 cs []) (hl : LwP D n R cs f e) : LW (bgA R cs) := by
  obtain ⟨f1, f2, f3, f4, f5, f6⟩ := hf
  have f2 : (cs.length : Int) ≤ rl (30 + 7) := f2
  rw [r37] at f2
  refine ⟨by rw [bg_81]; omega, by rw [bg_81]; exact f2, fun i i0 i1 => ?_, fun h9 pv => ?_⟩
  · rw [bg_81] at i1
    rw [bg_80]
    exact (CD_at f5 i.toNat (by omega)).2
  · rw [codeL_bg]
    rw [bg_0] at h9
    rcases hl with ⟨l1, -⟩ | ⟨l1, l2, l3⟩
    · omega
    · obtain ⟨-, -, v, v1, -⟩ := l3
      exact ⟨v pv, v1 pv [] (by show 0 + 21 ≤ 64; omega)⟩
theorem bg_PLv (hp : PlC M R) (hf : FV M 30 cs []) : PLv M 5 (bgA R cs) := by
  obtain ⟨⟨h0, h1, h4, h7, h12, h17⟩, h⟩ := hp
  have rw' : ∀ (q : Nat × Int × Int × Int) (F : Nat), q ∈ plT → (∀ j, bgA R cs F j = R (q.2.2.1 + q.2.2.2 * j)) → ∀ t, t + 1 = q.1 → RW M t (R q.2.1) (bgA R cs) F := by
    intro q F hq hF t ht j j0 j1
    have h9 := h q hq j.toNat (by omega)
    rw [show ((j.toNat : Nat) : Int) = j by omega] at h9
    rw [hF j, ← h9, ← ht]
    rfl
  refine ⟨h0, h1, h4, h7, h12, h17, rw' (7, 1, 12, 5) 30 (by decide) (fun j => rfl) 6 rfl, rw' (9, 1, 13, 5) 31 (by decide) (fun j => rfl) 8 rfl, rw' (11, 2, 42, 3) 26 (by decide) (fun j => rfl) 10 rfl, rw' (13, 2, 43, 3) 27 (by decide) (fun j => rfl) 12 rfl, rw' (15, 3, 66, 10) 40 (by decide) (fun j => rfl) 14 rfl, rw' (23, 4, 126, 4) 50 (by decide) (fun j => rfl) 22 rfl, rw' (25, 4, 127, 4) 51 (by decide) (fun j => rfl) 24 rfl, rw' (27, 4, 128, 4) 52 (by decide) (fun j => rfl) 26 rfl, rw' (29, 4, 129, 4) 53 (by decide) (fun j => rfl) 28 rfl, hf.1, fun j j0 j1 => ?_⟩
  have j1 : j < (cs.length : Int) := j1
  have := (CD_at hf.2.2.2.2.1 j.toNat (by omega)).1
  rw [show (0 : Int) + (j.toNat : Nat) = j by omega] at this
  exact this
theorem bg_RR (hi : RdI R) (hr : ∀ z : Nat, z < 934 → M 820 z = ii (R z)) : RR M (bgA R cs) := by
  obtain ⟨g, ge, gw, gs, gc, gb⟩ := hi
  have b8 := gb.1 8 (by omega) (by omega)
  have k : ∀ z y : Int, 0 ≤ z → z < 934 → z = y → rr M z = ii (R y) := fun z y z0 z1 h => by
    unfold rr
    rw [hr z.toNat (by omega), show ((z.toNat : Nat) : Int) = z by omega, h]
  refine ⟨fun q a b => k q q a (by omega) rfl, fun q a b => ⟨k _ _ (by omega) (by omega) (by omega), k _ _ (by omega) (by omega) (by omega), k _ _ (by omega) (by omega) (by omega), k _ _ (by omega) (by omega) (by omega), k _ _ (by omega) (by omega) (by omega)⟩, fun q a b => ⟨k _ _ (by omega) (by omega) (by omega), k _ _ (by omega) (by omega) (by omega), k _ _ (by omega) (by omega) (by omega)⟩, fun q a b => ⟨k _ _ (by omega) (by omega) (by omega), k _ _ (by omega) (by omega) (by omega), k _ _ (by omega) (by omega) (by omega), k _ _ (by omega) (by omega) (by omega), k _ _ (by omega) (by omega) (by omega), k _ _ (by omega) (by omega) (by omega), k _ _ (by omega) (by omega) (by omega), k _ _ (by omega) (by omega) (by omega), k _ _ (by omega) (by omega) (by omega), k _ _ (by omega) (by omega) (by omega)⟩, fun q a b => ⟨k _ _ (by omega) (by omega) (by omega), k _ _ (by omega) (by omega) (by omega), k _ _ (by omega) (by omega) (by omega), k _ _ (by omega) (by omega) (by omega)⟩, fun q a b => ?_, fun q p a0 a b c d => ?_, fun e p a b c d => ?_, fun e p a b c d => ?_⟩
  · rw [bg_0] at b
    have kk : ∀ p : Int, 0 ≤ p → p < 6 → rr M (174 + 6 * q + p) = ii (-1) := fun p p0 p1 => by
      rw [k _ _ (by omega) (by omega) rfl, gb.2.2.2.2 _ (by omega) (by omega)]
    exact ⟨kk 0 (by omega) (by omega), kk 1 (by omega) (by omega), kk 2 (by omega) (by omega), fun w => absurd (bg_20 (R := R) (cs := cs) (k := q)) w, kk 5 (by omega) (by omega)⟩
  · rw [k _ _ (by omega) (by omega) rfl, gb.2.2.2.2 _ (by omega) (by omega)]
  · rw [bg_44, bl_s gb a b (by omega)] at d
    omega
  · rw [bg_0] at b
    omega
theorem S39l {L : Nat} (hL : L ≤ 500) (h10 : M 820 10 = ii L) (ht : ∀ i : Nat, i < L → M 820 (934 + i) = ii (E i) ∧ 0 ≤ E i ∧ E i < 256) : ∀ (m k : Nat) (z2 : PV), k + m = 501 → ∃ r : Bool, ev true 39 0 2 [pR 13 819, pI (ii k), z2] [] M X = some (.inl (some (pI (bI r))), M, X) ∧ (r = true ↔ ∃ i, k ≤ i ∧ i + 3 < L ∧ E i = 108 ∧ E (i + 1) = 97 ∧ E (i + 2) = 116 ∧ E (i + 3) = 101) := by
  intro m
  induction m with
  | zero =>
    intro k z2 h1
    refine ⟨false, by rw [q39_2, i_10, inR (by omega)]; show (if ii k + 3 < M 820 10 then _ else _) = _; rw [h10, i_3, ii_add, ltF (by omega), i_0, rk0]; rfl, ⟨fun w => absurd w (by decide), fun ⟨i, i1, i2, _⟩ => by omega⟩⟩
  | succ m ih =>
    intro k z2 h1
    have go : ∀ z3 : PV, ¬ (E k = 108 ∧ E (k + 1) = 97 ∧ E (k + 2) = 116 ∧ E (k + 3) = 101) → ∃ r : Bool, ev true 39 0 85 [pR 13 819, pI (ii k), z3] [] M X = some (.inl (some (pI (bI r))), M, X) ∧ (r = true ↔ ∃ i, k ≤ i ∧ i + 3 < L ∧ E i = 108 ∧ E (i + 1) = 97 ∧ E (i + 2) = 116 ∧ E (i + 3) = 101) := fun z3 hn => by
      obtain ⟨r, r1, r2⟩ := ih (k + 1) (pI (ii 0)) (by omega)
      refine ⟨r, by rw [q39_85, q39_86, i_0, eqT rfl, i_1, ii_add]; exact r1, r2.trans ⟨fun ⟨i, i1, i2⟩ => ⟨i, by omega, i2⟩, fun ⟨i, i1, i2, i3⟩ => ?_⟩⟩
      rcases Nat.eq_or_lt_of_le i1 with q | q
      · subst q; exact absurd i3 hn
      · exact ⟨i, q, i2, i3⟩
    by_cases hk : k + 3 < L
    · obtain ⟨t0, u0, v0⟩ := ht k (by omega)
      obtain ⟨t1, u1, v1⟩ := ht (k + 1) (by omega)
      obtain ⟨t2, u2, v2⟩ := ht (k + 2) (by omega)
      obtain ⟨t3, u3, v3⟩ := ht (k + 3) (by omega)
      have e0 : M 820 (ii ((934 : Int) + (k : Int))).toNatClampNeg = ii (E k) := by rw [ii_nat (by omega) (by omega), show ((934 : Int) + (k : Int)).toNat = 934 + k by omega, t0]
      have e1 : M 820 (ii ((934 : Int) + (k : Int) + 1)).toNatClampNeg = ii (E (k + 1)) := by rw [ii_nat (by omega) (by omega), show ((934 : Int) + (k : Int) + 1).toNat = 934 + (k + 1) by omega, t1]
      have e2 : M 820 (ii ((934 : Int) + (k : Int) + 2)).toNatClampNeg = ii (E (k + 2)) := by rw [ii_nat (by omega) (by omega), show ((934 : Int) + (k : Int) + 2).toNat = 934 + (k + 2) by omega, t2]
      have e3 : M 820 (ii ((934 : Int) + (k : Int) + 3)).toNatClampNeg = ii (E (k + 3)) := by rw [ii_nat (by omega) (by omega), show ((934 : Int) + (k : Int) + 3).toNat = 934 + (k + 3) by omega, t3]
      rw [q39_2, i_10, inR (by omega)]
      show ∃ r : Bool, (if ii k + 3 < M 820 10 then _ else _) = _ ∧ _
      rw [h10, i_3, ii_add, ltT (by omega), i_934, ii_add, i_1, ii_add, i_2, ii_add, ii_add, inR (by omega), inR (by omega), inR (by omega), inR (by omega), e0, e1, e2, e3, i_108, i_97, i_116, i_101, ieq (by omega), ieq (by omega), ieq (by omega), ieq (by omega)]
      by_cases c0 : E k = 108
      · rw [if_pos c0]
        by_cases c1 : E (k + 1) = 97
        · rw [if_pos c1]
          by_cases c2 : E (k + 2) = 116
          · rw [if_pos c2]
            by_cases c3 : E (k + 3) = 101
            · rw [if_pos c3]
              refine ⟨true, ?_, ⟨fun _ => ⟨k, Nat.le_refl _, hk, c0, c1, c2, c3⟩, fun _ => rfl⟩⟩
              rw [q39_86, i_0, eqF (by omega), i_1, rk1]
              rfl
            · rw [if_neg c3]
              exact go _ (fun w => c3 w.2.2.2)
          · rw [if_neg c2]
            exact go _ (fun w => c2 w.2.2.1)
        · rw [if_neg c1]
          exact go _ (fun w => c1 w.2.1)
      · rw [if_neg c0]
        exact go _ (fun w => c0 w.1)
    · refine ⟨false, by rw [q39_2, i_10, inR (by omega)]; show (if ii k + 3 < M 820 10 then _ else _) = _; rw [h10, i_3, ii_add, ltF (by omega), i_0, rk0]; rfl, ⟨fun w => absurd w (by decide), fun ⟨i, i1, i2, _⟩ => by omega⟩⟩
theorem use_bg : useA (bgA R cs) 5 = true ↔ (-6 : Int) ∈ cs := by
  unfold useA
  rw [bg_81, List.any_eq_true]
  constructor
  · rintro ⟨j, j1, j2⟩
    have j3 := List.mem_range'_1.1 j1
    have j2 := of_decide_eq_true j2
    rw [bg_80, show ((j : Int)).toNat = j by omega, getD_i _ _ (by omega)] at j2
    rw [show (-6 : Int) = -1 - 5 by omega, ← j2]
    exact List.getElem_mem _
  · intro h
    obtain ⟨j, j1, j2⟩ := List.getElem_of_mem h
    refine ⟨j, List.mem_range'_1.2 ⟨Nat.zero_le _, by omega⟩, decide_eq_true ?_⟩
    rw [bg_80, show ((j : Int)).toNat = j by omega, getD_i _ _ j1, j2]
    omega
/-- the text that is kept -/
def TxM (M : Mem) (D : Nat → Int) (R : Int → Int) (f e : Nat) : Prop := M 820 10 = ii (R 10) ∧ (R 9 = 1 → ∀ i, f ≤ i → i < e → M 820 (934 + (i - f)) = ii (D i))
theorem bg_TXL (hl : LwP D n R cs f e) (hn : n ≤ 500) (hD : ∀ i, i < n → 0 ≤ D i ∧ D i < 256) (ht : TxM M D R f e) : TXL M (bgA R cs) := by
  intro M1 X hm
  have m10 : M1 820 10 = M 820 10 := hm 10 (by omega) (by omega) (Or.inl rfl)
  rcases hl with ⟨l1, l0, l2⟩ | ⟨l1, l2, l3⟩
  · subst l2
    obtain ⟨r, r1, r2⟩ := S39l (M := M1) (X := X) (L := 0) (E := fun _ => 0) (by omega) (by rw [m10, ht.1, l0]; rfl) (fun i hi => by omega) 501 0 p0 (by omega)
    have r1 : ev true 39 0 2 [pR 13 819, pI (ii 0), p0] [] M1 X = _ := r1
    rw [q39_0, i_0, r1]
    have e1 : r = false := by
      cases hr : r with
      | false => rfl
      | true => obtain ⟨i, i1, i2, -⟩ := r2.1 hr; omega
    have e2 : useA (bgA R []) 5 = false := by
      cases hr : useA (bgA R []) 5 with
      | false => rfl
      | true => exact absurd (use_bg.1 hr) (List.not_mem_nil)
    rw [e1, e2]
  · obtain ⟨g1, g2, v, v1, v2, v3⟩ := l3
    obtain ⟨r, r1, r2⟩ := S39l (M := M1) (X := X) (L := e - f) (E := fun i => D (f + i)) (by omega) (by rw [m10, ht.1, l2]; congr 1; omega) (fun i hi => ⟨by
      have h9 := hm (934 + (i : Int)) (by omega) (by omega) (Or.inr (by omega))
      unfold rr at h9
      rw [show (934 + (i : Int)).toNat = 934 + i by omega] at h9
      rw [h9]
      have h8 := ht.2 l1 (f + i) (by omega) (by omega)
      rwa [show f + i - f = i by omega] at h8, hD (f + i) (by omega)⟩) 501 0 p0 (by omega)
    have r1 : ev true 39 0 2 [pR 13 819, pI (ii 0), p0] [] M1 X = _ := r1
    rw [q39_0, i_0, r1]
    have e1 : r = useA (bgA R cs) 5 := bo_iff (by
      rw [r2, use_bg, ← v3]
      constructor
      · rintro ⟨i, i1, i2, i3, i4, i5, i6⟩
        exact ⟨f + i, by omega, by omega, i3, i4, i5, i6⟩
      · rintro ⟨k, k1, k2, k3, k4, k5, k6⟩
        refine ⟨k - f, by omega, by omega, ?_, ?_, ?_, ?_⟩
        · show D (f + (k - f)) = 108
          rw [show f + (k - f) = k by omega]; exact k3
        · show D (f + (k - f + 1)) = 97
          rw [show f + (k - f + 1) = k + 1 by omega]; exact k4
        · show D (f + (k - f + 2)) = 116
          rw [show f + (k - f + 2) = k + 2 by omega]; exact k5
        · show D (f + (k - f + 3)) = 101
          rw [show f + (k - f + 3) = k + 3 by omega]; exact k6)
    rw [e1]
theorem bg_TXT (hl : LwP D n R cs f e) (hn : n ≤ 500) (hD : ∀ i, i < n → 0 ≤ D i ∧ D i < 256) (ht : TxM M D R f e) : TXT M (bgA R cs) := by
  intro h9 M1 A1 T1 j X hm hs hw j0 j1 h10 h11
  rw [bg_0] at h9
  rcases hl with ⟨l1, -⟩ | ⟨l1, l2, l3⟩
  · omega
  · obtain ⟨g1, g2, v, v1, v2, v3⟩ := l3
    have m10 : M1 820 10 = M 820 10 := hm 10 (by omega) (by omega) (Or.inl rfl)
    have hTV : TV M1 D f e := ⟨by omega, by omega, by rw [m10, ht.1, l2], fun i i1 i2 => ⟨by
      have k9 := hm (934 + ((i - f : Nat) : Int)) (by omega) (by omega) (Or.inr (by omega))
      unfold rr at k9
      rw [show (934 + ((i - f : Nat) : Int)).toNat = 934 + (i - f) by omega] at k9
      rw [k9]
      exact ht.2 l1 i i1 i2, hD i (by omega)⟩⟩
    obtain ⟨M', y, a1, a2, a3, a4, a5⟩ := v2 M1 X A1 T1 j f e f 0 (Nat.le_refl _) ⟨hw, ⟨j0, j1⟩, h11⟩ hTV g2 (Nat.le_refl _) AtB.rf (Nat.le_refl _) (fun w => by omega) (by rw [h10]; congr 1; omega)
    refine ⟨M', ?_, a5.1, fun k k1 k2 => a5.2 k k1⟩
    have ec : codeL A1 = cs := by
      rw [← codeL_bg (R := R) (cs := cs)]
      unfold codeL
      obtain ⟨-, -, -, -, -, -, -, -, -, -, -, -, -, -, -, s80, s81⟩ := hs
      rw [s80, s81]
    rw [a1, ec, v1 (pvA A1 j) [] (by show 0 + 21 ≤ 64; omega)]
    rfl
end FRS
