/-! what turns: the class's loop, token by token -/
section STP
set_option maxRecDepth 100000
variable {z y a c u lo hi v N j T x : Int} {M M' M0 M1 M2 : Mem} {X : PX} {n m i e p t b b' d d' tk : Nat} {D : Nat → Int} {P : PS} {cs w ps : List Int} {q : Int × Nat}
def FrJ (M M' : Mem) : Prop := (∀ b, b ≠ 1 → b ≠ 30 → b ≠ 34 → b ≠ 38 → M' b = M b) ∧ (∀ k, k < 3 → M' 1 k = M 1 k) ∧ ∀ k, k ≠ 2 → k ≠ 4 → M' 30 k = M 30 k
theorem FrJ.rf : FrJ M M := ⟨fun _ _ _ _ _ => rfl, fun _ _ => rfl, fun _ _ _ => rfl⟩
theorem FrJ.tr {M1 M2 M3 : Mem} (h1 : FrJ M1 M2) (h2 : FrJ M2 M3) : FrJ M1 M3 := ⟨fun b a1 a2 a3 a4 => (h2.1 b a1 a2 a3 a4).trans (h1.1 b a1 a2 a3 a4), fun k h => (h2.2.1 k h).trans (h1.2.1 k h), fun k a1 a2 => (h2.2.2 k a1 a2).trans (h1.2.2 k a1 a2)⟩
theorem FrC.J (h : FrC M M') : FrJ M M' := ⟨fun b a1 _ _ _ => h.1 b a1, fun k hk => h.2 k hk, fun k _ _ => by rw [h.1 30 (by decide)]⟩
theorem FrF.J (h : FrF 30 M M') : FrJ M M' := ⟨fun b _ a2 a3 a4 => h.1 b a2 a3 a4, fun k _ => by rw [h.1 1 (by decide) (by decide) (by decide)], fun k a1 a2 => h.2 k a1 a2⟩
theorem CTP.F (h : CTP M D n P) (hf : FrF 30 M M') : CTP M' D n P := h.kp (hf.1 1 (by decide) (by decide) (by decide)) (hf.1 3 (by decide) (by decide) (by decide))
theorem FV.C (h : FV M 30 cs w) (hf : FrC M M') : FV M' 30 cs w := h.at (hf.1 30 (by decide)) (hf.1 34 (by decide)) (hf.1 38 (by decide))
theorem r33 : rl (30 + 3) = 64 := by unfold rl; rw [show ln (30 + 3 + 1) = 64 by decide +kernel]; rfl
theorem r37 : rl (30 + 7) = 500 := by unfold rl; rw [show ln (30 + 7 + 1) = 500 by decide +kernel]; rfl
theorem S249 (hb : CB M D n) (h : CTk M D n b) : ev true 249 0 0 [pR 2 1] [] M X = some (.inl (some (pI (ii (paI D n b)))), M, X) := by
  rw [q249_0, S230k hb h, kb1, q249_6, i_0, bIT]
  unfold paI
  cases c1 : wdB D n b 3
  · rw [cond_false, if_neg Bool.false_ne_true, S230k hb h, kb1, q249_17, i_0, i_1, bIT]
    cases c2 : wdB D n b 16
    · rw [cond_false, if_neg Bool.false_ne_true, S230k hb h, kb1, q249_28, i_0, i_2, bIT]
      cases c3 : wdB D n b 20
      · rw [cond_false, if_neg Bool.false_ne_true, S230k hb h, kb1, q249_39, i_0, i_3, bIT]
        cases c4 : wdB D n b 14
        · rw [cond_false, if_neg Bool.false_ne_true, S230k hb h, kb1, q249_50, i_0, i_4, bIT]
          cases c5 : wdB D n b 7
          · rw [cond_false, if_neg Bool.false_ne_true, S230k hb h, kb1, q249_61, i_0, i_5, bIT]
            cases c6 : wdB D n b 8
            · rw [cond_false, if_neg Bool.false_ne_true, S230k hb h, kb1, q249_72, i_0, i_6, bIT]
              cases c7 : wdB D n b 19
              · rw [cond_false, if_neg Bool.false_ne_true, S230k hb h, kb1, q249_84, i_0, i_7, ii_m1, bIT]
                cases c8 : wdB D n b 17
                · rw [cond_false, if_neg Bool.false_ne_true, q249_93]
                · rw [cond_true, if_pos rfl, q249_93]
              · rw [cond_true, if_pos rfl]
            · rw [cond_true, if_pos rfl]
          · rw [cond_true, if_pos rfl]
        · rw [cond_true, if_pos rfl]
      · rw [cond_true, if_pos rfl]
    · rw [cond_true, if_pos rfl]
  · rw [cond_true, if_pos rfl]
noncomputable def parS (D : Nat → Int) (n b : Nat) : PS := if paI D n b = -1 then numS D n 0 9999 (.inl b) else .inl (nxD D n b)
noncomputable def pcC (D : Nat → Int) (n b : Nat) : Int := if paI D n b = -1 then nuV D n b else -1 - paI D n b
theorem pa_le (D : Nat → Int) (n b : Nat) : -1 ≤ paI D n b ∧ paI D n b ≤ 7 := by
  rcases pa_in (D := D) (n := n) (b := b) with h | ⟨t, k, x1, x2, h1, h2, h3⟩
  · omega
  · have := paT_ok _ h1
    have h4 : 0 ≤ k ∧ k ≤ 7 := ⟨this.2.2.2.1, this.2.2.2.2⟩
    omega
theorem S265 (h : CTP M D n (.inl b)) (hf : FV M 30 cs w) (hl : cs.length < 500) : ∃ M' c, ev true 265 0 0 [pR 3 4, pR 2 1, p0] [] M X = some (.inl none, M', X) ∧ CTP M' D n (parS D n b) ∧ FV M' 30 (cs ++ [c]) w ∧ FrJ M M' ∧ (iF (parS D n b) → c = pcC D n b) := by
  have hp := pa_le D n b
  have r7 := r37
  unfold parS pcC
  rw [q265_0, S249 h.1 h.2.1, kb1, q265_4, ii_m1, ieq (by omega)]
  by_cases k : paI D n b = -1
  · rw [if_pos k, if_pos k, if_pos k]
    obtain ⟨M1, v, a1, a2, a3, a4, a5, a6⟩ := S144 (X := X) h (lo := 0) (hi := 9999) (by omega) (by omega)
    have hv : 0 ≤ v ∧ v ≤ 9999 := by rcases a6 ⟨b, rfl⟩ with e | e <;> omega
    obtain ⟨M2, b1, b2, b3⟩ := S101 (X := X) (hf.C a3) (c := v) (by omega) (by omega)
    exact ⟨M2, v, by rw [i_0, i_9999, a1, kb1, q265_25, b1, kb0, q265_28, q265_46], a2.F b3, b2, a3.J.tr b3.J, fun w => (a5 w).1⟩
  · rw [if_neg k, if_neg k, if_neg k]
    obtain ⟨M1, b1, b2, b3⟩ := S102 (X := X) hf (c := paI D n b) (by omega) (by omega)
    obtain ⟨M2, a1, a2, a3⟩ := S60n (X := X) (h.F b3)
    exact ⟨M2, _, by rw [b1, kb0, q265_42, a1, kb0, q265_46], a2, b2.C a3, b3.J.tr a3.J, fun _ => rfl⟩
def opC (D : Nat → Int) (n b : Nat) : Int := if sgB D n b 43 = true then -11 else if sgB D n b 45 = true then -12 else if sgB D n b 42 = true then -13 else 0
theorem S147 (hb : CB M D n) (h : CTk M D n b) : ev true 147 0 0 [pR 2 1] [] M X = some (.inl (some (pI (ii (opC D n b)))), M, X) := by
  unfold opC
  rw [q147_0, i_43, S62k hb h (by omega), kb1, q147_6, i_0, i_m11, bIT]
  cases c1 : sgB D n b 43
  · rw [cond_false, if_neg Bool.false_ne_true, i_45, S62k hb h (by omega), kb1, q147_18, i_0, i_m12, bIT]
    cases c2 : sgB D n b 45
    · rw [cond_false, if_neg Bool.false_ne_true, i_42, S62k hb h (by omega), kb1, q147_30, i_0, i_m13, bIT]
      cases c3 : sgB D n b 42
      · rw [cond_false, if_neg Bool.false_ne_true, q147_39]
      · rw [cond_true, if_pos rfl, q147_39]
    · rw [cond_true, if_pos rfl]
  · rw [cond_true, if_pos rfl]
theorem op_in (D : Nat → Int) (n b : Nat) : opC D n b = 0 ∨ ((opC D n b = -11 ∧ sgB D n b 43 = true) ∨ (opC D n b = -12 ∧ sgB D n b 45 = true) ∨ (opC D n b = -13 ∧ sgB D n b 42 = true)) := by
  unfold opC
  cases c1 : sgB D n b 43
  · rw [if_neg Bool.false_ne_true]
    cases c2 : sgB D n b 45
    · rw [if_neg Bool.false_ne_true]
      cases c3 : sgB D n b 42
      · rw [if_neg Bool.false_ne_true]; exact Or.inl rfl
      · rw [if_pos rfl]; exact Or.inr (Or.inr (Or.inr ⟨rfl, rfl⟩))
    · rw [if_pos rfl]; exact Or.inr (Or.inr (Or.inl ⟨rfl, rfl⟩))
  · rw [if_pos rfl]; exact Or.inr (Or.inl ⟨rfl, rfl⟩)
theorem sg_in (h : sgB D n b c = true) : b < n ∧ D b = c ∧ tE D n b = b + 1 ∧ b + 1 ≤ nxD D n b ∧ AtB D (b + 1) (nxD D n b) ∧ nxD D n b ≤ n ∧ NB D n (nxD D n b) := by
  have h := of_decide_eq_true h
  obtain ⟨h1, h2⟩ := tk_lt (D := D) (n := n) (b := b) (by omega)
  have e : tE D n b = b + 1 := by
    unfold tE
    rw [if_pos h1, if_pos (by omega)]
  have hn := nx_at (D := D) (Nat.le_of_lt h1)
  have hx := nx_in (D := D) (Nat.le_of_lt h1)
  rw [e] at hn
  exact ⟨h1, h.2, e, hn.1.1, hn.1, hx.2.1, hn.2⟩
noncomputable def LPo (d u tk : Int) (M : Mem) (X : PX) : Option PRs := ev true 274 0 36 [pR 3 4, pR 2 1, pI (ii d), pI (ii u), pI (ii tk)] [] M X
theorem LE_ok {z2 z3 z4 : PV} : ∀ {M' : Mem}, ev true 172 0 0 [pR 12 30] [] M X = some (.inl none, M', X) → ev true 274 0 149 [pR 3 4, pR 2 1, z2, z3, z4] [] M X = some (.inl none, M', X) := by
  intro M' h
  rw [q274_149, h, kb0, q274_159]
def CGo (D : Nat → Int) (n b : Nat) (u : Int) (d : Nat) (cs w : List Int) (b' : Nat) (u' : Int) (d' : Nat) (cs' w' : List Int) : Prop :=
  ∀ (M : Mem) (X : PX) (tk : Nat), tk + 1 ≤ b → CTP M D n (.inl b) → FV M 30 cs w → cs.length + w.length + 1 ≤ b → ∃ (M' : Mem) (tk' : Nat), tk' + 1 ≤ b' ∧ LPo d u tk M X = LPo d' u' tk' M' X ∧ CTP M' D n (.inl b') ∧ FV M' 30 cs' w' ∧ cs'.length + w'.length + 1 ≤ b' ∧ FrJ M M'
def CBad (D : Nat → Int) (n b : Nat) (u : Int) (d : Nat) (cs w : List Int) (q : Int × Nat) : Prop :=
  ∀ (M : Mem) (X : PX) (tk : Nat), tk + 1 ≤ b → CTP M D n (.inl b) → FV M 30 cs w → cs.length + w.length + 1 ≤ b → ∃ (M' : Mem), LPo d u tk M X = some (.inl none, M', X) ∧ CTP M' D n (.inr q) ∧ FrJ M M'
theorem CGo.tr {u u' u'' : Int} {d d' d'' b b' b'' : Nat} {cs w cs' w' cs'' w'' : List Int} (h1 : CGo D n b u d cs w b' u' d' cs' w') (h2 : CGo D n b' u' d' cs' w' b'' u'' d'' cs'' w'') : CGo D n b u d cs w b'' u'' d'' cs'' w'' := by
  intro M X tk k1 k2 k3 k4
  obtain ⟨M1, t1, a1, a2, a3, a4, a5, a6⟩ := h1 M X tk k1 k2 k3 k4
  obtain ⟨M2, t2, b1, b2, b3, b4, b5, b6⟩ := h2 M1 X t1 a1 a3 a4 a5
  exact ⟨M2, t2, b1, a2.trans b2, b3, b4, b5, a6.tr b6⟩
theorem CGo.bad {u u' : Int} {d d' b b' : Nat} {cs w cs' w' : List Int} (h1 : CGo D n b u d cs w b' u' d' cs' w') (h2 : CBad D n b' u' d' cs' w' q) : CBad D n b u d cs w q := by
  intro M X tk k1 k2 k3 k4
  obtain ⟨M1, t1, a1, a2, a3, a4, a5, a6⟩ := h1 M X tk k1 k2 k3 k4
  obtain ⟨M2, b1, b2, b3⟩ := h2 M1 X t1 a1 a3 a4 a5
  exact ⟨M2, a2.trans b1, b2, a6.tr b3⟩
/-- behind a fault the loop ends -/
theorem L_end {x2 x3 : Int32} (h : CTP M D n (.inr q)) (hf : FV M 30 cs w) (hl : cs.length + w.length ≤ 500) (ht : tk ≤ 1000) : ∃ M', ev true 274 0 36 [pR 3 4, pR 2 1, pI x2, pI x3, pI (ii tk)] [] M X = some (.inl none, M', X) ∧ CTP M' D n (.inr q) ∧ FrJ M M' := by
  obtain ⟨M', a1, a2, a3⟩ := S172 (X := X) hf r33 (by rw [r37]; omega)
  refine ⟨M', ?_, h.F a3, a3.J⟩
  rw [q274_36, i_500, ilt (by omega)]
  by_cases k : (tk : Int) < 500
  · rw [if_pos k, S6 h, kb1, q274_48, i_0, bIT, show fiB (Sum.inr q) = false from rfl, cond_false, LE_ok a1]
  · rw [if_neg k, LE_ok a1]
theorem len1 {c : Int} : (cs ++ [c]).length = cs.length + 1 := by rw [List.length_append]; rfl
theorem c_open (hs : sgB D n b 40 = true) (hd : d < 6) (hw : w.length < 64) : CGo D n b 1 d cs w (nxD D n b) 1 (d + 1) cs (-20 :: w) := by
  intro M X tk k1 k2 k3 k4
  obtain ⟨s1, s2, s3, s4, s5, s6, s7⟩ := sg_in hs
  have h500 := k2.1.1
  obtain ⟨M1, a1, a2, a3⟩ := S100 (X := X) k3 r33 hw (c := -20) (by omega)
  obtain ⟨M2, b1, b2, b3⟩ := S60n (X := X) (k2.F a3)
  refine ⟨M2, tk + 1, by omega, ?_, b2, a2.C b3, by rw [List.length_cons]; omega, a3.J.tr b3.J⟩
  unfold LPo
  rw [q274_36, i_500, ltT (by omega), S6 k2, kb1, q274_48, i_0, bIT, show fiB (Sum.inl b) = true from rfl, cond_true, eqF (by omega), i_40, S62k k2.1 k2.2.1 (by omega), kb1, q274_61, i_0, bIT, hs, cond_true, q146_0, i_6, ltT (by omega), i_m20, a1, kb0, q146_24, b1, kb0, q146_28, kb1, q274_71, i_1, ii_add, q274_143, i_1, ii_add]
  rfl
theorem c_deep (hs : sgB D n b 40 = true) (hd : d = 6) : CBad D n b 1 d cs w (4, b) := by
  intro M X tk k1 k2 k3 k4
  obtain ⟨s1, s2, s3, s4, s5, s6, s7⟩ := sg_in hs
  have h500 := k2.1.1
  obtain ⟨M1, a1, a2, a3⟩ := S5 (X := X) k2 (c := 4) (by omega)
  have a2 : CTP M1 D n (.inr (4, b)) := a2
  obtain ⟨M2, e1, e2, e3⟩ := L_end (X := X) (x2 := ii d + ii 0) (x3 := ii 1) (tk := tk + 1) a2 (k3.C a3) (by omega) (by omega)
  refine ⟨M2, ?_, e2, a3.J.tr e3⟩
  unfold LPo
  rw [q274_36, i_500, ltT (by omega), S6 k2, kb1, q274_48, i_0, bIT, show fiB (Sum.inl b) = true from rfl, cond_true, eqF (by omega), i_40, S62k k2.1 k2.2.1 (by omega), kb1, q274_61, i_0, bIT, hs, cond_true, q146_0, i_6, ltF (by omega), i_4, a1, kb1, q146_11, kb1, q274_71, q274_143, i_1, ii_add (tk : Int) 1]
  exact e1
theorem c_part (hs : sgB D n b 40 = false) (hp : parS D n b = .inl b') (hb : b < b') : CGo D n b 1 d cs w b' 0 d (cs ++ [pcC D n b]) w := by
  intro M X tk k1 k2 k3 k4
  have h500 := k2.1.1
  have hbn := k2.2.1.1
  obtain ⟨M1, c, a1, a2, a3, a4, a5⟩ := S265 (X := X) k2 k3 (by omega)
  rw [hp] at a2 a5
  have ec := a5 ⟨b', rfl⟩
  subst ec
  refine ⟨M1, tk + 1, by omega, ?_, a2, a3, by rw [len1]; omega, a4⟩
  unfold LPo
  rw [q274_36, i_500, ltT (by omega), S6 k2, kb1, q274_48, i_0, bIT, show fiB (Sum.inl b) = true from rfl, cond_true, eqF (by omega), i_40, S62k k2.1 k2.2.1 (by omega), kb1, q274_61, i_0, bIT, hs, cond_false, q274_76, i_0, eqF (by omega), a1, kb0, q274_85, i_0, q274_143, i_1, ii_add]
  rfl
theorem c_pbad (hs : sgB D n b 40 = false) (hp : parS D n b = .inr q) : CBad D n b 1 d cs w q := by
  intro M X tk k1 k2 k3 k4
  have h500 := k2.1.1
  have hbn := k2.2.1.1
  obtain ⟨M1, c, a1, a2, a3, a4, a5⟩ := S265 (X := X) k2 k3 (by omega)
  rw [hp] at a2
  obtain ⟨M2, e1, e2, e3⟩ := L_end (X := X) (x2 := ii d) (x3 := ii 0) (tk := tk + 1) a2 a3 (by rw [len1]; omega) (by omega)
  refine ⟨M2, ?_, e2, a4.tr e3⟩
  unfold LPo
  rw [q274_36, i_500, ltT (by omega), S6 k2, kb1, q274_48, i_0, bIT, show fiB (Sum.inl b) = true from rfl, cond_true, eqF (by omega), i_40, S62k k2.1 k2.2.1 (by omega), kb1, q274_61, i_0, bIT, hs, cond_false, q274_76, i_0, eqF (by omega), a1, kb0, q274_85, i_0, q274_143, i_1, ii_add]
  exact e1
theorem c_op (ho : opC D n b = c) (hc : c ≠ 0) (hw : (setW (stg c) w).length < 64) : CGo D n b 0 d cs w (nxD D n b) 1 d (cs ++ setC (stg c) w) (c :: setW (stg c) w) := by
  intro M X tk k1 k2 k3 k4
  have h500 := k2.1.1
  have hbn := k2.2.1.1
  have hs : ∃ g, sgB D n b g = true ∧ -13 ≤ c ∧ c ≤ -11 := by
    rcases op_in D n b with e | e | e | e
    · exact absurd (ho.symm.trans e) hc
    · exact ⟨_, e.2, by omega, by omega⟩
    · exact ⟨_, e.2, by omega, by omega⟩
    · exact ⟨_, e.2, by omega, by omega⟩
  obtain ⟨g, g1, g2⟩ := hs
  obtain ⟨s1, s2, s3, s4, s5, s6, s7⟩ := sg_in g1
  have hle := set_le (k := stg c) w
  obtain ⟨M1, a1, a2, a3⟩ := S170 (X := X) k3 r33 (c := c) (by omega) (by rw [r37]; omega) hw
  obtain ⟨M2, b1, b2, b3⟩ := S60n (X := X) (k2.F a3)
  refine ⟨M2, tk + 1, by omega, ?_, b2, a2.C b3, by rw [List.length_cons, List.length_append]; omega, a3.J.tr b3.J⟩
  unfold LPo
  rw [q274_36, i_500, ltT (by omega), S6 k2, kb1, q274_48, i_0, bIT, show fiB (Sum.inl b) = true from rfl, cond_true, eqT rfl, q274_76, i_0, eqT rfl, S147 k2.1 k2.2.1, kb1, q274_94, i_0, ho, eqF (by omega), S147 k2.1 k2.2.1, kb1, q274_108, ho, a1, kb0, q274_111, b1, kb0, q274_115, i_1, q274_143, i_1, ii_add]
  rfl
theorem c_shut (ho : opC D n b = 0) (hd : 0 < d ∧ d ≤ 6) (hs : sgB D n b 41 = true) : CGo D n b 0 d cs w (nxD D n b) 0 (d - 1) (cs ++ setC 1 w) (setW 1 w).tail := by
  intro M X tk k1 k2 k3 k4
  have h500 := k2.1.1
  have hbn := k2.2.1.1
  obtain ⟨s1, s2, s3, s4, s5, s6, s7⟩ := sg_in hs
  have hle := set_le (k := 1) w
  obtain ⟨M1, a1, a2, a3⟩ := S202 (X := X) k2 (c := 41) (by omega)
  have a2 : CTP M1 D n (bif sgB D n b 41 then .inl (nxD D n b) else .inr (1, b)) := a2
  rw [hs] at a2
  have a2 : CTP M1 D n (.inl (nxD D n b)) := a2
  obtain ⟨M2, b1, b2, b3⟩ := S171 (X := X) (k3.C a3) r33 (by rw [r37]; omega)
  refine ⟨M2, tk + 1, by omega, ?_, a2.F b3, b2, by rw [List.length_append, List.length_tail]; omega, a3.J.tr b3.J⟩
  unfold LPo
  rw [q274_36, i_500, ltT (by omega), S6 k2, kb1, q274_48, i_0, bIT, show fiB (Sum.inl b) = true from rfl, cond_true, eqT rfl, q274_76, i_0, eqT rfl, S147 k2.1 k2.2.1, kb1, q274_94, i_0, ho, eqT rfl, ltT (by omega), i_41, a1, kb0, q274_130, b1, kb0, q274_140, ii_m1, ii_add, q274_143, i_1, ii_add, show (d : Int) + -1 = ((d - 1 : Nat) : Int) by omega]
  rfl
theorem c_sbad (ho : opC D n b = 0) (hd : 0 < d ∧ d ≤ 6) (hs : sgB D n b 41 = false) : CBad D n b 0 d cs w (1, b) := by
  intro M X tk k1 k2 k3 k4
  have h500 := k2.1.1
  have hbn := k2.2.1.1
  have hle := set_le (k := 1) w
  obtain ⟨M1, a1, a2, a3⟩ := S202 (X := X) k2 (c := 41) (by omega)
  have a2 : CTP M1 D n (bif sgB D n b 41 then .inl (nxD D n b) else .inr (1, b)) := a2
  rw [hs] at a2
  have a2 : CTP M1 D n (.inr (1, b)) := a2
  obtain ⟨M2, b1, b2, b3⟩ := S171 (X := X) (k3.C a3) r33 (by rw [r37]; omega)
  obtain ⟨M3, e1, e2, e3⟩ := L_end (X := X) (x2 := ii ((d : Int) + -1)) (x3 := ii 0) (tk := tk + 1) (a2.F b3) b2 (by rw [List.length_append, List.length_tail]; omega) (by omega)
  refine ⟨M3, ?_, e2, a3.J.tr (b3.J.tr e3)⟩
  unfold LPo
  rw [q274_36, i_500, ltT (by omega), S6 k2, kb1, q274_48, i_0, bIT, show fiB (Sum.inl b) = true from rfl, cond_true, eqT rfl, q274_76, i_0, eqT rfl, S147 k2.1 k2.2.1, kb1, q274_94, i_0, ho, eqT rfl, ltT (by omega), i_41, a1, kb0, q274_130, b1, kb0, q274_140, ii_m1, ii_add, q274_143, i_1, ii_add]
  exact e1
/-- the end of the sum, nothing open -/
theorem c_last (ho : opC D n b = 0) (k1 : tk + 1 ≤ b) (k2 : CTP M D n (.inl b)) (k3 : FV M 30 cs w) (k4 : cs.length + w.length + 1 ≤ b) : ∃ M', LPo 0 0 tk M X = some (.inl none, M', X) ∧ CTP M' D n (.inl b) ∧ FV M' 30 (cs ++ setC 1 w) (setW 1 w) ∧ FrJ M M' := by
  have h500 := k2.1.1
  have hbn := k2.2.1.1
  obtain ⟨M1, a1, a2, a3⟩ := S172 (X := X) k3 r33 (by rw [r37]; omega)
  refine ⟨M1, ?_, k2.F a3, a2, a3.J⟩
  unfold LPo
  rw [q274_36, i_500, ltT (by omega), S6 k2, kb1, q274_48, i_0, bIT, show fiB (Sum.inl b) = true from rfl, cond_true, eqT rfl, q274_76, i_0, eqT rfl, S147 k2.1 k2.2.1, kb1, q274_94, i_0, ho, eqT rfl, ltF (by omega), LE_ok a1]
end STP
