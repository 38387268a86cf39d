/-! the class's loop over a question -/
section QLP
set_option maxRecDepth 100000
variable {z y a c lo hi v N x T j o u u' u'' : Int} {M M' M0 M1 M2 : Mem} {X : PX} {n m i p t b b' b'' b1 b2 d k e tk nn nb nn' nb' nn'' nb'' F : Nat} {D : Nat → Int} {P : PS} {cs w ps cs' w' cs'' w'' : List Int} {q : Int × Nat} {A : AT} {x2 : Int32}
noncomputable def QLo (x2 : Int32) (u tk : Int) (M : Mem) (X : PX) : Option PRs := ev true 277 0 55 [pR 4 39, pR 2 1, pI x2, pI (ii u), pI (ii tk)] [] M X
def QGo (D : Nat → Int) (n b : Nat) (u : Int) (nn nb : Nat) (cs w : List Int) (b' : Nat) (u' : Int) (nn' nb' : Nat) (cs' w' : List Int) : Prop :=
  ∀ (M : Mem) (X : PX) (x2 : Int32) (tk : Nat), tk + 1 ≤ b → CTP M D n (.inl b) → FV M 40 cs w → M 39 2 = ii nb → M 39 3 = ii nn → cs.length + w.length + 4 ≤ b → ∃ (M' : Mem) (tk' : Nat), tk' + 1 ≤ b' ∧ QLo x2 u tk M X = QLo x2 u' tk' M' X ∧ CTP M' D n (.inl b') ∧ FV M' 40 cs' w' ∧ M' 39 2 = ii nb' ∧ M' 39 3 = ii nn' ∧ cs'.length + w'.length + 4 ≤ b' ∧ FrK M M'
def QBad (D : Nat → Int) (n b : Nat) (u : Int) (nn nb : Nat) (cs w : List Int) (q : Int × Nat) : Prop :=
  ∀ (M : Mem) (X : PX) (x2 : Int32) (tk : Nat), tk + 1 ≤ b → CTP M D n (.inl b) → FV M 40 cs w → M 39 2 = ii nb → M 39 3 = ii nn → cs.length + w.length + 4 ≤ b → ∃ (M' : Mem), QLo x2 u tk M X = some (.inl none, M', X) ∧ CTP M' D n (.inr q) ∧ FrK M M'
theorem QGo.tr (h1 : QGo D n b u nn nb cs w b' u' nn' nb' cs' w') (h2 : QGo D n b' u' nn' nb' cs' w' b'' u'' nn'' nb'' cs'' w'') : QGo D n b u nn nb cs w b'' u'' nn'' nb'' cs'' w'' := by
  intro M X x2 tk k1 k2 k3 k4 k5 k6
  obtain ⟨M1, t1, a1, a2, a3, a4, a5, a6, a7, a8⟩ := h1 M X x2 tk k1 k2 k3 k4 k5 k6
  obtain ⟨M2, t2, b1, b2, b3, b4, b5, b6, b7, b8⟩ := h2 M1 X x2 t1 a1 a3 a4 a5 a6 a7
  exact ⟨M2, t2, b1, a2.trans b2, b3, b4, b5, b6, b7, a8.tr b8⟩
theorem QGo.bad (h1 : QGo D n b u nn nb cs w b' u' nn' nb' cs' w') (h2 : QBad D n b' u' nn' nb' cs' w' q) : QBad D n b u nn nb cs w q := by
  intro M X x2 tk k1 k2 k3 k4 k5 k6
  obtain ⟨M1, t1, a1, a2, a3, a4, a5, a6, a7, a8⟩ := h1 M X x2 tk k1 k2 k3 k4 k5 k6
  obtain ⟨M2, b1, b2, b3⟩ := h2 M1 X x2 t1 a1 a3 a4 a5 a6 a7
  exact ⟨M2, a2.trans b1, b2, a8.tr b3⟩
theorem QE_ok {z1 z2 z3 z4 : PV} : ∀ {M' : Mem}, ev true 172 0 0 [pR 12 40] [] M X = some (.inl none, M', X) → ev true 277 0 212 [pR 4 39, z1, z2, z3, z4] [] M X = some (.inl none, M', X) := by
  intro M' h
  rw [q277_212, h, kb0, q277_219]
theorem Q_end {x3 : Int32} (h : CTP M D n (.inr q)) (hf : FV M 40 cs w) (hl : cs.length + w.length ≤ 200) (ht : tk ≤ 1000) : ∃ M', ev true 277 0 55 [pR 4 39, pR 2 1, pI x2, pI x3, pI (ii tk)] [] M X = some (.inl none, M', X) ∧ CTP M' D n (.inr q) ∧ FrK M M' := by
  obtain ⟨M', a1, a2, a3⟩ := S172 (X := X) hf r43 (by rw [r47]; omega)
  refine ⟨M', ?_, h.K a3, a3.K⟩
  rw [q277_55, i_200, ilt (by omega)]
  by_cases k : (tk : Int) < 200
  · rw [if_pos k, S6 h, kb1, q277_67, i_0, bIT, show fiB (Sum.inr q) = false from rfl, cond_false, QE_ok a1]
  · rw [if_neg k, QE_ok a1]
/-- the loop's head, a fact due -/
theorem Q_due (hn : n ≤ 200) (k1 : tk + 1 ≤ b) (k2 : CTP M D n (.inl b)) : QLo x2 1 tk M X = (ev true 275 0 0 [pR 4 39, pR 2 1, p0, p0] [] M X).bind (kRet true false 277 0 0 79 (ev true 277 0) [pR 4 39, pR 2 1, pI x2, pI (ii 1), pI (ii tk)] [] X) := by
  have hb := k2.2.1.1
  unfold QLo
  rw [q277_55, i_200, ltT (by omega), S6 k2, kb1, q277_67, i_0, bIT, show fiB (Sum.inl b) = true from rfl, cond_true, eqF (by omega)]
theorem Q_bk {z3 : PV} (r : Bool) : ev true 277 0 79 [pR 4 39, pR 2 1, pI x2, z3, pI (ii tk)] [pI (bI r)] M X = QLo x2 (bif r then 0 else 1) (tk + 1 : Nat) M X := by
  unfold QLo
  rw [q277_79, i_0, bIT]
  cases r with
  | true => rw [cond_true, cond_true, q277_87, q277_206, i_1, ii_add]; rfl
  | false => rw [cond_false, cond_false, i_1, q277_87, q277_206, i_1, ii_add]; rfl
theorem q_not (hn : n ≤ 200) (hs : wdB D n b 10 = true) (hd : nn + nb < 6) (hw : w.length < 64) : QGo D n b 1 nn nb cs w (nxD D n b) 1 (nn + 1) nb cs (-19 :: w) := by
  intro M X x2 tk k1 k2 k3 k4 k5 k6
  have hx := nx_in (D := D) k2.2.1.1
  have hlt := hx.2.2 (tk_lt (D := D) (n := n) (b := b) (by have := (wdB_t.1 hs).1; omega)).1
  obtain ⟨Mu, hMu⟩ : ∃ Mu, Mu = upM (upM M 39 3 (ii ((nn : Int) + 1))) 39 2 (ii ((nb : Int) + 0)) := ⟨_, rfl⟩
  have c1 : CTP Mu D n (.inl b) := by rw [hMu]; exact k2.u39.u39
  have c2 : FV Mu 40 cs w := by rw [hMu]; exact k3.u39.u39
  obtain ⟨M1, a1, a2, a3⟩ := S100 (X := X) c2 r43 hw (c := -19) (by omega)
  obtain ⟨M2, b1, b2, b3⟩ := S60n (X := X) (c1.K a3)
  have e39 : M2 39 = Mu 39 := by rw [b3.1 39 (by decide), a3.1 39 (by decide) (by decide) (by decide)]
  refine ⟨M2, tk + 1, by omega, ?_, b2, a2.C4 b3, ?_, ?_, by rw [List.length_cons]; omega, ?_⟩
  · rw [Q_due hn k1 k2, q275_0, S230k k2.1 k2.2.1, kb1, q275_6, i_0, bIT, hs, cond_true, q275_20, q149_0, k5, k4, ii_add, i_6, ltT (by omega), i_0, bIT, cond_true, i_1, q149_35, i_0, bIT, cond_true, ii_add, up_d (show (2 : Nat) ≠ 3 by decide), k4, q149_53, i_0, bIT, cond_true, ii_add, i_m19, ← hMu, q149_72, a1, kb0, q149_75, b1, kb0, q149_79, kb0, q275_26, i_0, rk0, kb1]
    exact Q_bk false
  · rw [e39, hMu, up_s, if_pos rfl, Int.add_zero]
  · rw [e39, hMu, up_d (by decide), up_s, if_pos rfl]; rfl
  · have : FrK M Mu := by rw [hMu]; exact (FrK.up (Or.inr rfl)).tr (FrK.up (Or.inl rfl))
    exact this.tr (a3.K.tr b3.K)
theorem q_brc (hn : n ≤ 200) (hs0 : wdB D n b 10 = false) (hs : sgB D n b 123 = true) (hd : nn + nb < 6) (hw : w.length < 64) : QGo D n b 1 nn nb cs w (nxD D n b) 1 nn (nb + 1) cs (-20 :: w) := by
  intro M X x2 tk k1 k2 k3 k4 k5 k6
  have hx := nx_in (D := D) k2.2.1.1
  have hlt := hx.2.2 (sg_in hs).1
  obtain ⟨Mu, hMu⟩ : ∃ Mu, Mu = upM (upM M 39 3 (ii ((nn : Int) + 0))) 39 2 (ii ((nb : Int) + 1)) := ⟨_, rfl⟩
  have c1 : CTP Mu D n (.inl b) := by rw [hMu]; exact k2.u39.u39
  have c2 : FV Mu 40 cs w := by rw [hMu]; exact k3.u39.u39
  obtain ⟨M1, a1, a2, a3⟩ := S100 (X := X) c2 r43 hw (c := -20) (by omega)
  obtain ⟨M2, b1, b2, b3⟩ := S60n (X := X) (c1.K a3)
  have e39 : M2 39 = Mu 39 := by rw [b3.1 39 (by decide), a3.1 39 (by decide) (by decide) (by decide)]
  refine ⟨M2, tk + 1, by omega, ?_, b2, a2.C4 b3, ?_, ?_, by rw [List.length_cons]; omega, ?_⟩
  · rw [Q_due hn k1 k2, q275_0, S230k k2.1 k2.2.1, kb1, q275_6, i_0, bIT, hs0, cond_false, i_123, S62k k2.1 k2.2.1 (by omega), kb1, q275_17, i_0, bIT, hs, cond_true, q275_20, q149_0, k5, k4, ii_add, i_6, ltT (by omega), i_0, bIT, cond_false, q149_35, i_0, bIT, cond_false, ii_add, i_1, up_d (show (2 : Nat) ≠ 3 by decide), k4, q149_53, i_0, bIT, cond_false, ii_add, i_m20, ← hMu, q149_72, a1, kb0, q149_75, b1, kb0, q149_79, kb0, q275_26, i_0, rk0, kb1]
    exact Q_bk false
  · rw [e39, hMu, up_s, if_pos rfl]; rfl
  · rw [e39, hMu, up_d (by decide), up_s, if_pos rfl, Int.add_zero]
  · have : FrK M Mu := by rw [hMu]; exact (FrK.up (Or.inr rfl)).tr (FrK.up (Or.inl rfl))
    exact this.tr (a3.K.tr b3.K)
theorem q_deep (hn : n ≤ 200) (hs : wdB D n b 10 = true ∨ (wdB D n b 10 = false ∧ sgB D n b 123 = true)) (hd : nn + nb = 6) : QBad D n b 1 nn nb cs w (3, b) := by
  intro M X x2 tk k1 k2 k3 k4 k5 k6
  have hb := k2.2.1.1
  obtain ⟨M1, a1, a2, a3⟩ := S5 (X := X) k2 (c := 3) (by omega)
  have a2 : CTP M1 D n (.inr (3, b)) := a2
  obtain ⟨M2, e1, e2, e3⟩ := Q_end (X := X) (x2 := x2) (x3 := ii 1) (tk := tk + 1) a2 (k3.C4 a3) (by omega) (by omega)
  refine ⟨M2, ?_, e2, a3.K.tr e3⟩
  have go : ∀ x : Int32, ev true 149 0 0 [pR 4 39, pR 2 1, pI x] [] M X = some (.inl none, M1, X) := fun x => by
    rw [q149_0, k5, k4, ii_add, i_6, ltF (by omega), i_3, a1, kb1, q149_19]
  have fin : ∀ x : Int32, (ev true 275 0 20 [pR 4 39, pR 2 1, pI x, p0] [] M X).bind (kRet true false 277 0 0 79 (ev true 277 0) [pR 4 39, pR 2 1, pI x2, pI (ii 1), pI (ii tk)] [] X) = some (.inl none, M2, X) := fun x => by
    rw [q275_20, go, kb0, q275_26, i_0, rk0, kb1]
    exact (Q_bk false).trans e1
  rcases hs with hs | ⟨hs0, hs⟩
  · rw [Q_due hn k1 k2, q275_0, S230k k2.1 k2.2.1, kb1, q275_6, i_0, bIT, hs, cond_true, fin]
  · rw [Q_due hn k1 k2, q275_0, S230k k2.1 k2.2.1, kb1, q275_6, i_0, bIT, hs0, cond_false, i_123, S62k k2.1 k2.2.1 (by omega), kb1, q275_17, i_0, bIT, hs, cond_true, fin]
theorem vl_lt (h : vlS D n (.inl b) = .inl b1) : b1 = nxD D n b ∧ b < n := by
  rw [vlS_l] at h
  by_cases k : qaI D n b = -1
  · rw [if_pos k, numS_l] at h
    by_cases c : tK D n b = 2
    · rw [if_pos c] at h
      by_cases c2 : nuV D n b < 0 ∨ 9999 < nuV D n b
      · rw [if_pos c2] at h; cases h
      · rw [if_neg c2] at h; cases h; exact ⟨rfl, (tk_dig c).1⟩
    · rw [if_neg c] at h; cases h
  · rw [if_neg k] at h; cases h; exact ⟨rfl, (tk_lt (D := D) (n := n) (b := b) (by rw [qa_wd k]; omega)).1⟩
theorem cm_lt (h : cmC D n b ≠ 0) : b < n := by
  rcases cm_in D n b with e | e | e | e
  · exact absurd e h
  · exact (sg_in e.2).1
  · exact (sg_in e.2).1
  · exact (sg_in e.2).1
noncomputable def fcC (D : Nat → Int) (n b : Nat) : List Int := [qcC D n b, qcC D n (nxD D n (nxD D n b)), cmC D n (nxD D n b)]
theorem fc_in (h : fcS D n b = .inl b') (hb : b ≤ n) : b + 3 ≤ b' ∧ b' ≤ n ∧ NB D n b' ∧ vlS D n (.inl b) = .inl (nxD D n b) ∧ cmC D n (nxD D n b) ≠ 0 ∧ vlS D n (.inl (nxD D n (nxD D n b))) = .inl b' := by
  unfold fcS at h
  cases hv : vlS D n (.inl b) with
  | inr q => rw [hv] at h; cases h
  | inl b1 =>
    rw [hv] at h
    obtain ⟨e1, e2⟩ := vl_lt hv
    subst e1
    have h : (if cmC D n (nxD D n b) = 0 then (.inr (1, nxD D n b) : PS) else vlS D n (.inl (nxD D n (nxD D n b)))) = .inl b' := h
    by_cases c : cmC D n (nxD D n b) = 0
    · rw [if_pos c] at h; cases h
    · rw [if_neg c] at h
      obtain ⟨e3, e4⟩ := vl_lt h
      have n1 := nx_in (D := D) hb
      have n2 := nx_in (D := D) n1.2.1
      have n3 := nx_in (D := D) n2.2.1
      have g1 := n1.2.2 e2
      have g2 := n2.2.2 (cm_lt c)
      have g3 := n3.2.2 e4
      exact ⟨by omega, by omega, by rw [e3]; exact (nx_at (D := D) n2.2.1).2, rfl, c, h⟩
theorem q_fact (hn : n ≤ 200) (h0 : wdB D n b 10 = false) (h1 : sgB D n b 123 = false) (hF : fcS D n b = .inl b') (ht : topL w 3) (hk : k ≤ nn) (hw : w.length + k < 64) : QGo D n b 1 nn nb cs (rp k ++ w) b' 0 (nn - k) nb (cs ++ fcC D n b ++ rp k) w := by
  intro M X x2 tk k1 k2 k3 k4 k5 k6
  have hbn := k2.2.1.1
  obtain ⟨f1, f2, f3, f4, f5, f6⟩ := fc_in hF hbn
  have el : (rp k ++ w).length = k + w.length := by rw [List.length_append, List.length_replicate]
  obtain ⟨M1, r, a1, a2, a3, a4, a5, a6⟩ := S275c (X := X) k2 h0 h1 k3 (rp_top ht) (by omega) (by omega) k5
  rw [hF] at a2 a6
  obtain ⟨b1, o, c1, c2, c3, c4, c5, c6⟩ := a6 ⟨b', rfl⟩
  rw [f4] at c1
  cases c1
  obtain ⟨s4, s19, slo, shi⟩ := cm_stg f5
  subst c2
  have ec : setC 3 (cmC D n (nxD D n b) :: (rp k ++ w)) = cmC D n (nxD D n b) :: rp k ∧ setW 3 (cmC D n (nxD D n b) :: (rp k ++ w)) = w := by
    obtain ⟨e1, e2⟩ := set_rp ht k
    show (if 3 ≤ stg (cmC D n (nxD D n b)) then _ else _) = _ ∧ (if 3 ≤ stg (cmC D n (nxD D n b)) then _ else _) = _
    rw [if_pos (by omega), if_pos (by omega), e1, e2]
    exact ⟨rfl, rfl⟩
  have en : neW (cmC D n (nxD D n b) :: (rp k ++ w)) = k := by
    have := ne_rp ht k
    show (if 3 ≤ stg (cmC D n (nxD D n b)) then (if cmC D n (nxD D n b) = -19 then 1 else 0) + neW (rp k ++ w) else (0 : Int)) = _
    rw [if_pos (by omega), if_neg s19, this]
    omega
  rw [ec.1, ec.2] at c5
  rw [en] at c6
  have ea : cs ++ [qcC D n b, qcC D n (nxD D n (nxD D n b))] ++ (cmC D n (nxD D n b) :: rp k) = cs ++ fcC D n b ++ rp k := by
    unfold fcC
    rw [List.append_assoc, List.append_assoc]
    rfl
  rw [ea] at c5
  refine ⟨M1, tk + 1, by omega, ?_, a2, c5, a4.trans k4, by rw [c6]; congr 1; omega, ?_, a3⟩
  · rw [Q_due hn k1 k2, a1, kb1, c4]
    exact Q_bk true
  · rw [el] at k6
    rw [List.length_append, List.length_append, List.length_replicate]
    show cs.length + 3 + k + w.length + 4 ≤ b'
    omega
theorem q_fbad (hn : n ≤ 200) (h0 : wdB D n b 10 = false) (h1 : sgB D n b 123 = false) (hF : fcS D n b = .inr q) (ht : topL w 4) (hw : w.length < 64) : QBad D n b 1 nn nb cs w q := by
  intro M X x2 tk k1 k2 k3 k4 k5 k6
  have hbn := k2.2.1.1
  obtain ⟨M1, r, a1, a2, a3, a4, ⟨cs', w', a5, a7⟩, a6⟩ := S275c (X := X) k2 h0 h1 k3 ht (by omega) hw k5
  rw [hF] at a2
  obtain ⟨M2, e1, e2, e3⟩ := Q_end (X := X) (x2 := x2) (x3 := ii (bif r then 0 else 1)) (tk := tk + 1) a2 a5 (by omega) (by omega)
  refine ⟨M2, ?_, e2, a3.tr e3⟩
  rw [Q_due hn k1 k2, a1, kb1]
  exact (Q_bk r).trans e1
/-- the loop's head, no fact due -/
theorem Q_nd (hn : n ≤ 200) (k1 : tk + 1 ≤ b) (k2 : CTP M D n (.inl b)) : QLo x2 0 tk M X = ev true 277 0 97 [pR 4 39, pR 2 1, pI x2, pI (ii 0), pI (ii tk)] [pI (bI (wdB D n b 0))] M X := by
  have hb := k2.2.1.1
  unfold QLo
  rw [q277_55, i_200, ltT (by omega), S6 k2, kb1, q277_67, i_0, bIT, show fiB (Sum.inl b) = true from rfl, cond_true, eqT rfl, S230k k2.1 k2.2.1, kb1]
theorem Q_106 (hn : n ≤ 200) (k1 : tk + 1 ≤ b) (k2 : CTP M D n (.inl b)) (h0 : wdB D n b 0 = false) : QLo x2 0 tk M X = ev true 277 0 106 [pR 4 39, pR 2 1, pI x2, pI (ii 0), pI (ii tk)] [pI (bI (wdB D n b 11))] M X := by
  rw [Q_nd hn k1 k2, q277_97, i_0, bIT, h0, cond_false, S230k k2.1 k2.2.1, kb1]
theorem q_op (hn : n ≤ 200) (h : (wdB D n b 0 = true ∧ o = -17) ∨ (wdB D n b 0 = false ∧ wdB D n b 11 = true ∧ o = -18)) (hw : (setW (stg o) w).length < 64) : QGo D n b 0 nn nb cs w (nxD D n b) 1 nn nb (cs ++ setC (stg o) w) (o :: setW (stg o) w) := by
  intro M X x2 tk k1 k2 k3 k4 k5 k6
  have hbn := k2.2.1.1
  have hx := nx_in (D := D) hbn
  have ht1 : tK D n b = 1 := by
    rcases h with h | h
    · exact (wdB_t.1 h.1).1
    · exact (wdB_t.1 h.2.1).1
  have hlt := hx.2.2 (tk_lt (D := D) (n := n) (b := b) (by omega)).1
  have hle := set_le (k := stg o) w
  have ho : -18 ≤ o ∧ o ≤ -17 := by omega
  obtain ⟨M1, a1, a2, a3⟩ := S170 (X := X) k3 r43 (c := o) (by omega) (by rw [r47]; omega) hw
  obtain ⟨M2, b1, b2, b3⟩ := S60n (X := X) (k2.K a3)
  have e39 : M2 39 = M 39 := by rw [b3.1 39 (by decide), a3.1 39 (by decide) (by decide) (by decide)]
  have fin : ev true 277 0 129 [pR 4 39, pR 2 1, pI x2, pI (ii 0), pI (ii tk)] [pI (ii o), pR 12 40] M X = QLo x2 1 (tk + 1 : Nat) M2 X := by
    rw [q277_129, a1, kb0, q277_132, b1, kb0, q277_136, i_1, q277_206, i_1, ii_add]
    rfl
  refine ⟨M2, tk + 1, by omega, ?_, b2, a2.C4 b3, by rw [e39]; exact k4, by rw [e39]; exact k5, by rw [List.length_cons, List.length_append]; omega, a3.K.tr b3.K⟩
  rcases h with ⟨h0, h1⟩ | ⟨h0, h1, h2⟩
  · rw [Q_nd hn k1 k2, q277_97, i_0, bIT, h0, cond_true, q277_109, S230k k2.1 k2.2.1, kb1, q277_119, i_0, bIT, h0, cond_true, i_m17, ← h1, fin]
  · rw [Q_106 hn k1 k2 h0, q277_106, i_0, bIT, h1, cond_true, q277_109, S230k k2.1 k2.2.1, kb1, q277_119, i_0, bIT, h0, cond_false, i_m18, ← h2, fin]
theorem q_shut (hn : n ≤ 200) (h0 : wdB D n b 0 = false) (h1 : wdB D n b 11 = false) (hs : sgB D n b 125 = true) (hd : 0 < nb ∧ nb ≤ 6) (hp : ∀ x ∈ ps, 1 ≤ stg x) (ht : topL w 3) (hk : k ≤ nn) : QGo D n b 0 nn nb cs (ps ++ (-20 :: (rp k ++ w))) (nxD D n b) 0 (nn - k) (nb - 1) (cs ++ ps ++ rp k) w := by
  intro M X x2 tk k1 k2 k3 k4 k5 k6
  have hbn := k2.2.1.1
  have hx := nx_in (D := D) hbn
  have hlt := hx.2.2 (sg_in hs).1
  have el : (ps ++ (-20 :: (rp k ++ w))).length = ps.length + (k + w.length + 1) := by rw [List.length_append, List.length_cons, List.length_append, List.length_replicate]
  rw [el] at k6
  obtain ⟨e1, e2⟩ := set_ap (ps := ps) (w := -20 :: (rp k ++ w)) (k := 1) hp (fun x t e => by cases e; decide)
  obtain ⟨M1, a1, a2, a3⟩ := S202 (X := X) k2 (c := 125) (by omega)
  have a2 : CTP M1 D n (bif sgB D n b 125 then .inl (nxD D n b) else .inr (1, b)) := a2
  rw [hs] at a2
  have a2 : CTP M1 D n (.inl (nxD D n b)) := a2
  obtain ⟨M2, b1, b2, b3⟩ := S171 (X := X) (k3.C4 a3) r43 (by rw [r47, el]; omega)
  rw [e1, e2, List.tail_cons] at b2
  have e39 : M2 39 = M 39 := by rw [b3.1 39 (by decide) (by decide) (by decide), a3.1 39 (by decide)]
  obtain ⟨Mu, hMu⟩ : ∃ Mu, Mu = upM M2 39 2 (ii ((nb : Int) - 1)) := ⟨_, rfl⟩
  have b2u : FV Mu 40 (cs ++ ps) (rp k ++ w) := by rw [hMu]; exact b2.u39
  obtain ⟨M3, c1, c2, c3⟩ := S173 (X := X) b2u r43 (by rw [r47, List.length_append, List.length_append, List.length_replicate]; omega)
  obtain ⟨s1, s2⟩ := set_rp ht k
  rw [s1, s2] at c2
  have m39 : M3 39 = Mu 39 := c3.1 39 (by decide) (by decide) (by decide)
  have q2 : Mu 39 2 = ii ((nb : Int) - 1) := by rw [hMu, up_s, if_pos rfl]
  have q3 : Mu 39 3 = ii nn := by rw [hMu, up_d (by decide), e39]; exact k5
  have fu : FrK M2 Mu := by rw [hMu]; exact FrK.up (Or.inl rfl)
  have ctu : CTP Mu D n (.inl (nxD D n b)) := by rw [hMu]; exact (a2.K b3).u39
  refine ⟨upM M3 39 3 (ii ((nn : Int) - k)), tk + 1, by omega, ?_, (ctu.K c3).u39, c2.u39, ?_, ?_, ?_, a3.K.tr (b3.K.tr (fu.tr (c3.K.tr (FrK.up (Or.inr rfl)))))⟩
  · rw [Q_106 hn k1 k2 h0, q277_106, i_0, bIT, h1, cond_false, k4, ltT (by omega), i_125, a1, kb0, q277_154, b1, kb0, q277_161, e39, k4, i_1, ii_sub, ← hMu, q3, c1, kb1, ne_rp ht k, q277_183, ii_sub, q277_206, i_1, ii_add]
    rfl
  · rw [up_d (by decide), m39, q2]; congr 1; omega
  · rw [up_s, if_pos rfl]; congr 1; omega
  · rw [List.length_append, List.length_append, List.length_replicate]; omega
theorem q_sbad (hn : n ≤ 200) (h0 : wdB D n b 0 = false) (h1 : wdB D n b 11 = false) (hs : sgB D n b 125 = false) (hd : 0 < nb ∧ nb ≤ 6) (hnn : nn ≤ 6) : QBad D n b 0 nn nb cs w (1, b) := by
  intro M X x2 tk k1 k2 k3 k4 k5 k6
  have hbn := k2.2.1.1
  have hle := set_le (k := 1) w
  obtain ⟨M1, a1, a2, a3⟩ := S202 (X := X) k2 (c := 125) (by omega)
  have a2 : CTP M1 D n (bif sgB D n b 125 then .inl (nxD D n b) else .inr (1, b)) := a2
  rw [hs] at a2
  have a2 : CTP M1 D n (.inr (1, b)) := a2
  obtain ⟨M2, b1, b2, b3⟩ := S171 (X := X) (k3.C4 a3) r43 (by rw [r47]; omega)
  have e39 : M2 39 = M 39 := by rw [b3.1 39 (by decide) (by decide) (by decide), a3.1 39 (by decide)]
  obtain ⟨Mu, hMu⟩ : ∃ Mu, Mu = upM M2 39 2 (ii ((nb : Int) - 1)) := ⟨_, rfl⟩
  obtain ⟨w1, hw1⟩ : ∃ w1, w1 = (setW 1 w).tail := ⟨_, rfl⟩
  rw [← hw1] at b2
  have hl1 : w1.length ≤ (setW 1 w).length := by rw [hw1, List.length_tail]; omega
  have hne := neW_in w1
  have hle2 := set_le (k := 3) w1
  have b2u : FV Mu 40 (cs ++ setC 1 w) w1 := by rw [hMu]; exact b2.u39
  obtain ⟨M3, c1, c2, c3⟩ := S173 (X := X) b2u r43 (by rw [r47, List.length_append]; omega)
  have q3 : Mu 39 3 = ii nn := by rw [hMu, up_d (by decide), e39]; exact k5
  have fu : FrK M2 Mu := by rw [hMu]; exact FrK.up (Or.inl rfl)
  have ctu : CTP Mu D n (.inr (1, b)) := by rw [hMu]; exact (a2.K b3).u39
  obtain ⟨M4, e1, e2, e3⟩ := Q_end (X := X) (x2 := x2) (x3 := ii 0) (tk := tk + 1) ((ctu.K c3).u39 (g := 3) (v := ii ((nn : Int) - neW w1))) c2.u39 (by rw [List.length_append, List.length_append]; omega) (by omega)
  refine ⟨M4, ?_, e2, a3.K.tr (b3.K.tr (fu.tr (c3.K.tr ((FrK.up (Or.inr rfl)).tr e3))))⟩
  rw [Q_106 hn k1 k2 h0, q277_106, i_0, bIT, h1, cond_false, k4, ltT (by omega), i_125, a1, kb0, q277_154, b1, kb0, q277_161, e39, k4, i_1, ii_sub, ← hMu, q3, c1, kb1, q277_183, ii_sub, q277_206, i_1, ii_add]
  exact e1
theorem q_last (hn : n ≤ 200) (h0 : wdB D n b 0 = false) (h1 : wdB D n b 11 = false) (hk : tK D n b = 0) (k1 : tk + 1 ≤ b) (k2 : CTP M D n (.inl b)) (k3 : FV M 40 cs w) (k4 : M 39 2 = ii 0) (k6 : cs.length + w.length + 4 ≤ b) : ∃ M', QLo x2 0 tk M X = some (.inl none, M', X) ∧ CTP M' D n (.inl b) ∧ FV M' 40 (cs ++ setC 1 w) (setW 1 w) ∧ FrK M M' := by
  have hbn := k2.2.1.1
  obtain ⟨M1, a1, a2, a3⟩ := S172 (X := X) k3 r43 (by rw [r47]; omega)
  refine ⟨M1, ?_, k2.K a3, a2, a3.K⟩
  rw [Q_106 hn k1 k2 h0, q277_106, i_0, bIT, h1, cond_false, k4, ltF (by omega), S7k k2.2.1, kb1, q277_194, i_0, bIT, decide_eq_true hk, cond_true, QE_ok a1]
theorem q_lbad (hn : n ≤ 200) (h0 : wdB D n b 0 = false) (h1 : wdB D n b 11 = false) (hk : tK D n b ≠ 0) : QBad D n b 0 nn 0 cs w (1, b) := by
  intro M X x2 tk k1 k2 k3 k4 k5 k6
  have hbn := k2.2.1.1
  obtain ⟨M1, a1, a2, a3⟩ := S5 (X := X) k2 (c := 1) (by omega)
  have a2 : CTP M1 D n (.inr (1, b)) := a2
  obtain ⟨M2, e1, e2, e3⟩ := Q_end (X := X) (x2 := x2) (x3 := ii 0) (tk := tk + 1) a2 (k3.C4 a3) (by omega) (by omega)
  have k4 : M 39 2 = ii 0 := k4
  refine ⟨M2, ?_, e2, a3.K.tr e3⟩
  rw [Q_106 hn k1 k2 h0, q277_106, i_0, bIT, h1, cond_false, k4, ltF (by omega), S7k k2.2.1, kb1, q277_194, i_0, bIT, decide_eq_false hk, cond_false, i_1, a1, kb1, q277_205, q277_206, i_1, ii_add]
  exact e1
end QLP
