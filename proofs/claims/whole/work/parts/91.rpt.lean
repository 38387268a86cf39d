/-! what turns: the reference's parts, terms, sums; values; 'late' -/
section RPT
set_option maxRecDepth 100000
variable {z y a c u lo hi v0 N j T x o : Int} {M M' M0 M1 M2 : Mem} {X : PX} {n m i e p t b b' b1 b2 b3 d d' tk lv L h h2 : Nat} {D : Nat → Int} {P : PS} {cs w ps : List Int} {q : Int × Nat} {v v2 : (Int → Int32) → Int32}
theorem blt40 (h : lv < 40) : Nat.blt lv 40 = true := Nat.ble_eq_true_of_le h
theorem R83 {z1 : PV} (h : RTP M D n (.inl b)) : ev true 290 lv 83 [pR 13 819, z1] [] M X = ev true 290 lv 168 [pR 13 819, z1] [pI (bI (decide (paI D n b ≠ -1)))] M X := by
  unfold paI
  rw [q290_83, S238 h, kb1, q290_90, i_0, bIT, wdR_l]
  cases c1 : wdB D n b 3
  · rw [cond_false, if_neg Bool.false_ne_true, S238 h, kb1, q290_100, i_0, bIT, wdR_l]
    cases c2 : wdB D n b 16
    · rw [cond_false, if_neg Bool.false_ne_true, S238 h, kb1, q290_110, i_0, bIT, wdR_l]
      cases c3 : wdB D n b 20
      · rw [cond_false, if_neg Bool.false_ne_true, S238 h, kb1, q290_120, i_0, bIT, wdR_l]
        cases c4 : wdB D n b 14
        · rw [cond_false, if_neg Bool.false_ne_true, S238 h, kb1, q290_130, i_0, bIT, wdR_l]
          cases c5 : wdB D n b 7
          · rw [cond_false, if_neg Bool.false_ne_true, S238 h, kb1, q290_140, i_0, bIT, wdR_l]
            cases c6 : wdB D n b 8
            · rw [cond_false, if_neg Bool.false_ne_true, S238 h, kb1, q290_150, i_0, bIT, wdR_l]
              cases c7 : wdB D n b 19
              · rw [cond_false, if_neg Bool.false_ne_true, S238 h, kb1, q290_160, i_0, bIT, wdR_l]
                cases c8 : wdB D n b 17
                · rw [cond_false, if_neg Bool.false_ne_true]; rfl
                · rw [cond_true, if_pos rfl, q290_163, i_1]; rfl
              · rw [cond_true, if_pos rfl, q290_163, i_1]; rfl
            · rw [cond_true, if_pos rfl, q290_163, i_1]; rfl
          · rw [cond_true, if_pos rfl, q290_163, i_1]; rfl
        · rw [cond_true, if_pos rfl, q290_163, i_1]; rfl
      · rw [cond_true, if_pos rfl, q290_163, i_1]; rfl
    · rw [cond_true, if_pos rfl, q290_163, i_1]; rfl
  · rw [cond_true, if_pos rfl, q290_163, i_1]; rfl
theorem R290p (h : RTP M D n (.inl b)) (hs : sgB D n b 40 = false) : ∃ M', ev true 290 lv 0 [pR 13 819, p0] [] M X = some (.inl none, M', X) ∧ RTP M' D n (parS D n b) ∧ FrP M M' := by
  have ht := h.2
  obtain ⟨b1, b2, b3, b4, b5, b6⟩ := ht
  have hk := tk_in (D := D) (n := n) b
  have hp := pa_le D n b
  rw [q290_0, i_40, S47 h (by omega), kb1, q290_6, i_0, bIT, sgR_l, hs, cond_false, b6, eqT rfl, b5, i_2, ieq (by omega)]
  unfold parS
  by_cases k : tK D n b = 2
  · have e : paI D n b = -1 := by
      rcases pa_in (D := D) (n := n) (b := b) with e | ⟨t, k1, x1, x2, e1, e2, e3⟩
      · exact e
      · have := e3.1; omega
    obtain ⟨M', v, a1, a2, a3, a4, a5⟩ := S218 (X := X) h (lo := 0) (hi := 9999) (by omega) (by omega)
    rw [if_pos k, if_pos e, i_9999, a1, kb1, q290_81]
    exact ⟨M', rfl, a2, a3⟩
  · rw [if_neg k, R83 h, q290_168, i_0, bIT]
    by_cases e : paI D n b = -1
    · obtain ⟨M1, a1, a2, a3⟩ := S46 (X := X) h (c := 1) (by omega)
      obtain ⟨M2, c1, c2, c3⟩ := S192 (X := X) a2
      rw [decide_eq_false (fun w => w e), cond_false, i_1, a1, kb0, q290_178, c1, kb0, q290_182, if_pos e, numS_l, if_neg k]
      exact ⟨M2, rfl, c2, a3.tr c3⟩
    · obtain ⟨M2, c1, c2, c3⟩ := S192 (X := X) h
      rw [decide_eq_true e, cond_true, q290_178, c1, kb0, q290_182, if_neg e]
      exact ⟨M2, rfl, c2, c3⟩
theorem R290f (h : RTP M D n (.inr q)) : ∃ M', ev true 290 lv 0 [pR 13 819, p0] [] M X = some (.inl none, M', X) ∧ RTP M' D n (.inr q) ∧ FrP M M' := by
  obtain ⟨f, p⟩ := q
  have h1 := h.2.1
  have h2 := h.2.2.1
  have no : ∀ t, ev true 238 0 0 [pR 13 819, pR 18 t, p0, p0] [] M X = some (.inl (some (pI (bI false))), M, X) := fun t => S238 h t
  obtain ⟨M1, a1, a2, a3⟩ := S46 (X := X) h (c := 1) (by omega)
  obtain ⟨M2, c1, c2, c3⟩ := S192 (X := X) a2
  refine ⟨M2, ?_, c2, a3.tr c3⟩
  rw [q290_0, i_40, S47 h (by omega), kb1, q290_6, i_0, bIT, show sgR D n 40 (Sum.inr (f, p)) = false from rfl, cond_false, h1, eqF (by omega), q290_83, no, kb1, q290_90, i_0, bIT, cond_false, no, kb1, q290_100, i_0, bIT, cond_false, no, kb1, q290_110, i_0, bIT, cond_false, no, kb1, q290_120, i_0, bIT, cond_false, no, kb1, q290_130, i_0, bIT, cond_false, no, kb1, q290_140, i_0, bIT, cond_false, no, kb1, q290_150, i_0, bIT, cond_false, no, kb1, q290_160, i_0, bIT, cond_false, q290_168, i_0, eqT rfl, i_1, a1, kb0, q290_178, c1, kb0, q290_182]
theorem R289f4 (h : RTP M D n (.inr q)) : ev true 289 lv 4 [pR 13 819] [] M X = some (.inl none, M, X) := by
  rw [q289_4, i_42, S47 h (by omega), kb1, q289_10, i_0, bIT]; rfl
theorem R289f (h : RTP M D n (.inr q)) (hl : lv < 40) : ∃ M', ev true 289 lv 0 [pR 13 819] [] M X = some (.inl none, M', X) ∧ RTP M' D n (.inr q) ∧ FrP M M' := by
  obtain ⟨M', a1, a2, a3⟩ := R290f (X := X) (lv := lv + 1) h
  exact ⟨M', by rw [q289_0, blt40 hl, cond_true, a1, kb0, R289f4 a2], a2, a3⟩
theorem R288f4 (h : RTP M D n (.inr q)) : ev true 288 lv 4 [pR 13 819] [] M X = some (.inl none, M, X) := by
  rw [q288_4, i_43, S47 h (by omega), kb1, q288_10, i_0, bIT, show sgR D n 43 (Sum.inr q) = false from rfl, cond_false, i_45, S47 h (by omega), kb1, q288_19, i_0, bIT]; rfl
theorem R288f (h : RTP M D n (.inr q)) (hl : lv < 39) : ∃ M', ev true 288 lv 0 [pR 13 819] [] M X = some (.inl none, M', X) ∧ RTP M' D n (.inr q) ∧ FrP M M' := by
  obtain ⟨M', a1, a2, a3⟩ := R289f (X := X) (lv := lv + 1) h (by omega)
  exact ⟨M', by rw [q288_0, blt40 (by omega), cond_true, a1, kb0, R288f4 a2], a2, a3⟩
/-- codes that leave one value more -/
def VSt (cs : List Int) (h : Nat) (v : (Int → Int32) → Int32) : Prop := ∀ (pv : Int → Int32) (st : List Int32), st.length + h ≤ 64 → evS pv cs st = some (v pv :: st)
theorem evS_ap (pv : Int → Int32) : ∀ (a b : List Int) (st : List Int32), evS pv (a ++ b) st = (evS pv a st).bind (evS pv b)
  | [], b, st => rfl
  | c :: a, b, st => by
    show (stp1 pv c st).bind (evS pv (a ++ b)) = ((stp1 pv c st).bind (evS pv a)).bind (evS pv b)
    cases stp1 pv c st with
    | none => rfl
    | some s => exact evS_ap pv a b s
theorem VSt.op (h1 : VSt cs h v) (h3 : VSt w h2 v2) (h4 : h2 + 1 ≤ h) (ho : -18 ≤ o ∧ o ≤ -11) : VSt (cs ++ w ++ [o]) h (fun pv => tog o (v pv) (v2 pv)) := by
  intro pv st hs
  rw [evS_ap, evS_ap, h1 pv st hs]
  show ((evS pv w (v pv :: st)).bind (evS pv [o])) = _
  rw [h3 pv (v pv :: st) (by rw [List.length_cons]; omega)]
  show (stp1 pv o (v2 pv :: v pv :: st)).bind (evS pv []) = _
  unfold stp1
  rw [if_neg (by omega), if_neg (by omega), if_neg (by omega)]
  rfl
theorem VSt.le (h1 : VSt cs h v) (h3 : h ≤ h2) : VSt cs h2 v := fun pv st hs => h1 pv st (by omega)
theorem VSt.num (hc : 0 ≤ c) (hh : 1 ≤ h) : VSt [c] h (fun _ => ii c) := by
  intro pv st hs
  show (stp1 pv c st).bind (evS pv []) = _
  unfold stp1
  rw [if_pos hc, if_pos (by omega)]
  rfl
theorem VSt.prt (hc : 0 ≤ c ∧ c ≤ 7) (hh : 1 ≤ h) : VSt [-1 - c] h (fun pv => pv c) := by
  intro pv st hs
  show (stp1 pv (-1 - c) st).bind (evS pv []) = _
  unfold stp1
  rw [if_neg (by omega), if_pos (by omega), if_pos (by omega), show -1 - (-1 - c) = c by omega]
  rfl
theorem tog13 (x y : Int32) : tog (-13) x y = x * y := rfl
theorem tog12 (x y : Int32) : tog (-12) x y = x - y := rfl
theorem tog11 (x y : Int32) : tog (-11) x y = x + y := rfl
/-- the word late stands there -/
def LAt (D : Nat → Int) (b b' : Nat) : Prop := ∃ k, b ≤ k ∧ k + 3 < b' ∧ D k = 108 ∧ D (k + 1) = 97 ∧ D (k + 2) = 116 ∧ D (k + 3) = 101
theorem LAt.cut (h1 : b ≤ b1) (h2 : b1 < b2) (h3 : b2 ≤ b') (hl : ∀ i, b1 ≤ i → i < b2 → ¬ (97 ≤ D i ∧ D i ≤ 122)) : LAt D b b' ↔ LAt D b b1 ∨ LAt D b2 b' := by
  constructor
  · rintro ⟨k, a1, a2, a3, a4, a5, a6⟩
    by_cases c1 : k + 3 < b1
    · exact Or.inl ⟨k, a1, c1, a3, a4, a5, a6⟩
    · by_cases c2 : b2 ≤ k
      · exact Or.inr ⟨k, c2, a2, a3, a4, a5, a6⟩
      · exfalso
        by_cases c3 : b1 ≤ k
        · exact hl k c3 (by omega) (by omega)
        · by_cases c4 : b1 = k + 1
          · exact hl (k + 1) (by omega) (by omega) (by omega)
          · by_cases c5 : b1 = k + 2
            · exact hl (k + 2) (by omega) (by omega) (by omega)
            · exact hl (k + 3) (by omega) (by omega) (by omega)
  · rintro (⟨k, a1, a2, a3⟩ | ⟨k, a1, a2, a3⟩)
    · exact ⟨k, a1, by omega, a3⟩
    · exact ⟨k, by omega, a2, a3⟩
theorem sg_nl (hs : sgB D n b c = true) (hc : ¬ (97 ≤ c ∧ c ≤ 122)) : ∀ i, b ≤ i → i < nxD D n b → ¬ (97 ≤ D i ∧ D i ≤ 122) := by
  obtain ⟨s1, s2, s3, s4, s5, s6, s7⟩ := sg_in hs
  intro i i1 i2
  rcases Nat.eq_or_lt_of_le i1 with e | e
  · rw [← e, s2]; exact hc
  · have := s5.2 i e i2
    omega
theorem la_num (hk : tK D n b = 2) : ¬ LAt D b (nxD D n b) := by
  obtain ⟨k1, k2, k3, k4⟩ := tk_dig hk
  have hn := nx_at (D := D) (Nat.le_of_lt k1)
  rintro ⟨k, a1, a2, a3, a4, a5, a6⟩
  by_cases c : k < tE D n b
  · have := k4 k a1 c
    omega
  · have := hn.1.2 k (by omega) (by omega)
    omega
theorem la_tab : ∀ q ∈ paT, ∀ f, f < 10 → (f + 3 < sln q.1 ∧ sch q.1 f = 108 ∧ sch q.1 (f + 1) = 97 ∧ sch q.1 (f + 2) = 116 ∧ sch q.1 (f + 3) = 101) → q.2.1 = 5 := by decide +kernel
theorem la_t8 : ∀ q ∈ paT, q.2.1 = 5 → sln q.1 = 4 ∧ sch q.1 0 = 108 ∧ sch q.1 1 = 97 ∧ sch q.1 2 = 116 ∧ sch q.1 3 = 101 := by decide +kernel
theorem la_wrd {q : Nat × Int × Int × Int} (hq : q ∈ paT) (hw : wdP D n b q.1) : LAt D b (nxD D n b) ↔ q.2.1 = 5 := by
  obtain ⟨w1, w2, w3⟩ := hw
  obtain ⟨p1, p2, p3, p4, p5⟩ := paT_ok q hq
  obtain ⟨k1, k5⟩ := tk_lt (D := D) (n := n) (b := b) (by omega)
  obtain ⟨k3, k2, k6, k7⟩ := te_in (D := D) k1
  have hn := nx_at (D := D) (Nat.le_of_lt k1)
  have hge := hn.1.1
  have hsl := sln_le q.1
  constructor
  · rintro ⟨k, a1, a2, a3, a4, a5, a6⟩
    have hin : ∀ i, k ≤ i → i ≤ k + 3 → 97 ≤ D i ∧ D i ≤ 122 := by
      intro i i1 i2
      have : i = k ∨ i = k + 1 ∨ i = k + 2 ∨ i = k + 3 := by omega
      rcases this with e | e | e | e <;> subst e <;> omega
    have hk3 : k + 3 < tE D n b := by
      by_cases c : k + 3 < tE D n b
      · exact c
      · exfalso
        have h3 := hin (k + 3) (by omega) (by omega)
        have := hn.1.2 (k + 3) (by omega) (by omega)
        omega
    have f : ∀ i, k ≤ i → i ≤ k + 3 → D i = sch q.1 (i - b) := fun i i1 i2 => by
      have := w3 (i - b) (by omega)
      rw [show b + (i - b) = i by omega] at this
      exact this
    have f0 := f k (by omega) (by omega)
    have f1 := f (k + 1) (by omega) (by omega)
    have f2 := f (k + 2) (by omega) (by omega)
    have f3 := f (k + 3) (by omega) (by omega)
    rw [show k + 1 - b = k - b + 1 by omega] at f1
    rw [show k + 2 - b = k - b + 2 by omega] at f2
    rw [show k + 3 - b = k - b + 3 by omega] at f3
    exact la_tab q hq (k - b) (by omega) ⟨by omega, by omega, by omega, by omega, by omega⟩
  · intro e
    obtain ⟨l0, l1, l2, l3, l4⟩ := la_t8 q hq e
    have f0 := w3 0 (by omega)
    have f1 := w3 1 (by omega)
    have f2 := w3 2 (by omega)
    have f3 := w3 3 (by omega)
    rw [Nat.add_zero] at f0
    exact ⟨b, Nat.le_refl _, by omega, by omega, by omega, by omega, by omega⟩
/-- values of what is in brackets, of terms, of sums -/
theorem ev_par (hs : sgB D n b 40 = true) (he : EvG D n 282 [pR 13 819, p0, p0, p0] (3 * (d + 1)) (nxD D n b) b2 v) (hs2 : sgB D n b2 41 = true) (hlt : nxD D n b < b2) (hd : d ≤ 6) : EvG D n 284 [pR 13 819, p0, p0, p0] (3 * d + 2) b (nxD D n b2) v := by
  intro M X A T j b0 e0 x lv hl hE hT hen hx hat h1 h2 h10
  obtain ⟨s1, s2, s3, s4, s5, s6, s7⟩ := sg_in hs
  obtain ⟨u1, u2, u3, u4, u5, u6, u7⟩ := sg_in hs2
  have hxb := hat.1
  obtain ⟨M1, a1, a2, a3⟩ := S31 (X := X) hT hx hat (by omega) (fun _ => by omega) h10
  have eb : btI D e0 b = D b := by unfold btI; rw [if_pos (by omega)]
  have f2 : FrE M (upM M1 819 10 (ii ((b : Int) - b0) + ii 1)) := a3.tr FrE.up
  obtain ⟨M2, y, c1, c2, c3, c4, c5⟩ := he _ X A T j b0 e0 (b + 1) (lv + 1) (by omega) (hE.fr f2) (hT.fr f2) hen (by omega) s5 (by omega) (fun _ => by omega) (by rw [up_s, if_pos rfl, ii_add]; congr 1; omega)
  have f3 := f2.tr c5
  obtain ⟨M3, g1, g2, g3⟩ := S31 (X := X) (hT.fr f3) c4 c3 (by omega) (fun _ => by omega) c2
  refine ⟨upM M3 819 10 (ii ((b2 : Int) - b0) + ii 1), b2 + 1, ?_, by rw [up_s, if_pos rfl, ii_add]; congr 1; omega, u5, by omega, f3.tr (g3.tr FrE.up)⟩
  rw [q284_0, a1, kb1, eb, s2, q284_4, i_40, eqT rfl, blt40 (by omega), cond_true, a2, i_1, c1, kb1, q284_25, g1, kb1, q284_30, g2, i_1]
def EvT (D : Nat → Int) (n L b b1 : Nat) (v : (Int → Int32) → Int32) : Prop :=
  ∀ (M : Mem) (X : PX) (A : AT) (T j : Int) (b0 e0 x lv : Nat), lv ≤ L → EC M A T j → TV M D b0 e0 → e0 ≤ n → b0 ≤ x → AtB D x b → b1 ≤ e0 → (b1 < e0 → ¬ (97 ≤ D b1 ∧ D b1 ≤ 122)) → M 819 10 = ii ((x : Int) - b0) → ∃ (M' : Mem) (y : Nat), ev true 283 lv 0 [pR 13 819, p0] [] M X = ev true 283 lv 5 [pR 13 819, pI (v (pvA A j))] [] M' X ∧ M' 819 10 = ii ((y : Int) - b0) ∧ AtB D y b1 ∧ b0 ≤ y ∧ FrE M M'
theorem EvT.of (hL : L < 40) (he : EvG D n 284 [pR 13 819, p0, p0, p0] (L + 1) b b1 v) : EvT D n L b b1 v := by
  intro M X A T j b0 e0 x lv hl hE hT hen hx hat h1 h2 h10
  obtain ⟨M2, y, c1, c2⟩ := he M X A T j b0 e0 x (lv + 1) (by omega) hE hT hen hx hat h1 h2 h10
  exact ⟨M2, y, by rw [q283_0, blt40 (by omega), cond_true, c1, kb1, q283_4], c2⟩
theorem EvT.op (hL : L < 40) (h1 : EvT D n L b b1 v) (hs : sgB D n b1 42 = true) (he : EvG D n 284 [pR 13 819, p0, p0, p0] (L + 1) (nxD D n b1) b3 v2) (hb : nxD D n b1 < b3) : EvT D n L b b3 (fun pv => tog (-13) (v pv) (v2 pv)) := by
  intro M X A T j b0 e0 x lv hl hE hT hen hx hat g1 g2 h10
  obtain ⟨s1, s2, s3, s4, s5, s6, s7⟩ := sg_in hs
  obtain ⟨M1, y, a1, a2, a3, a4, a5⟩ := h1 M X A T j b0 e0 x lv hl hE hT hen hx hat (by omega) (fun _ => by omega) h10
  have hy := a3.1
  obtain ⟨M2, c1, c2, c3⟩ := S31 (X := X) (hT.fr a5) a4 a3 (by omega) (fun _ => by omega) a2
  have eb : btI D e0 b1 = 42 := by unfold btI; rw [if_pos (by omega), s2]
  have f2 : FrE M (upM M2 819 10 (ii ((b1 : Int) - b0) + ii 1)) := a5.tr (c3.tr FrE.up)
  obtain ⟨M3, y3, d1, d2, d3, d4, d5⟩ := he _ X A T j b0 e0 (b1 + 1) (lv + 1) (by omega) (hE.fr f2) (hT.fr f2) hen (by omega) s5 g1 g2 (by rw [up_s, if_pos rfl, ii_add]; congr 1; omega)
  refine ⟨M3, y3, ?_, d2, d3, d4, f2.tr d5⟩
  rw [a1, q283_5, c1, kb1, eb, q283_9, i_42, eqT rfl, blt40 (by omega), cond_true, c2, i_1, d1, kb1, q283_29]
  rfl
theorem sg_no {c : Int} (hs : sgB D n b c = false) (hc : kdC c = 3) (hb : b < n) : D b ≠ c := by
  intro e
  have : sgB D n b c = true := decide_eq_true ⟨by unfold tK; rw [if_pos hb, e, hc], e⟩
  rw [hs] at this
  cases this
theorem EvT.last (h1 : EvT D n L b b1 v) (hs : sgB D n b1 42 = false) (hnb : NB D n b1) : EvG D n 283 [pR 13 819, p0] L b b1 v := by
  intro M X A T j b0 e0 x lv hl hE hT hen hx hat g1 g2 h10
  obtain ⟨M1, y, a1, a2, a3, a4, a5⟩ := h1 M X A T j b0 e0 x lv hl hE hT hen hx hat g1 g2 h10
  obtain ⟨M2, c1, c2, c3⟩ := S31 (X := X) (hT.fr a5) a4 a3 g1 (fun w => hnb (by omega)) a2
  have hy := a3.1
  refine ⟨M2, b1, ?_, c2, AtB.rf, by omega, a5.tr c3⟩
  have eb : btI D e0 b1 ≠ 42 ∧ -1 ≤ btI D e0 b1 ∧ btI D e0 b1 < 256 := by
    unfold btI
    by_cases k : b1 < e0
    · have := hT.2.2.2 b1 (by omega) k
      rw [if_pos k]
      exact ⟨sg_no hs (by decide) (by omega), by omega, by omega⟩
    · rw [if_neg k]; omega
  rw [a1, q283_5, c1, kb1, q283_9, i_42, eqF (by omega)]
def EvU (D : Nat → Int) (n L b b1 : Nat) (v : (Int → Int32) → Int32) : Prop :=
  ∀ (M : Mem) (X : PX) (A : AT) (T j : Int) (b0 e0 x lv : Nat), lv ≤ L → EC M A T j → TV M D b0 e0 → e0 ≤ n → b0 ≤ x → AtB D x b → b1 ≤ e0 → (b1 < e0 → ¬ (97 ≤ D b1 ∧ D b1 ≤ 122)) → M 819 10 = ii ((x : Int) - b0) → ∃ (M' : Mem) (z3 : PV), ev true 282 lv 0 [pR 13 819, p0, p0, p0] [] M X = ev true 282 lv 10 [pR 13 819, pI (v (pvA A j)), pI (ii (btI D e0 b1)), z3] [] M' X ∧ M' 819 10 = ii ((b1 : Int) - b0) ∧ b0 ≤ b1 ∧ FrE M M'
theorem EvU.of (hL : L < 39) (he : EvG D n 283 [pR 13 819, p0] (L + 1) b b1 v) (hnb : NB D n b1) : EvU D n L b b1 v := by
  intro M X A T j b0 e0 x lv hl hE hT hen hx hat h1 h2 h10
  obtain ⟨M2, y, c1, c2, c3, c4, c5⟩ := he M X A T j b0 e0 x (lv + 1) (by omega) hE hT hen hx hat h1 h2 h10
  obtain ⟨M3, d1, d2, d3⟩ := S31 (X := X) (hT.fr c5) c4 c3 h1 (fun w => hnb (by omega)) c2
  have hy := c3.1
  exact ⟨M3, p0, by rw [q282_0, blt40 (by omega), cond_true, c1, kb1, q282_4, d1, kb1, q282_9], d2, by omega, c5.tr d3⟩
theorem EvU.op (hL : L < 39) (h1 : EvU D n L b b1 v) (ho : (o = -11 ∧ sgB D n b1 43 = true) ∨ (o = -12 ∧ sgB D n b1 45 = true)) (he : EvG D n 283 [pR 13 819, p0] (L + 1) (nxD D n b1) b3 v2) (hb : nxD D n b1 < b3) (hnb : NB D n b3) : EvU D n L b b3 (fun pv => tog o (v pv) (v2 pv)) := by
  intro M X A T j b0 e0 x lv hl hE hT hen hx hat g1 g2 h10
  have hs : ∃ c, sgB D n b1 c = true ∧ (c = 43 ∨ c = 45) := by
    rcases ho with e | e
    · exact ⟨_, e.2, Or.inl rfl⟩
    · exact ⟨_, e.2, Or.inr rfl⟩
  obtain ⟨c, hc, hc2⟩ := hs
  obtain ⟨s1, s2, s3, s4, s5, s6, s7⟩ := sg_in hc
  obtain ⟨M1, z3, a1, a2, a3, a5⟩ := h1 M X A T j b0 e0 x lv hl hE hT hen hx hat (by omega) (fun _ => by omega) h10
  have eb : btI D e0 b1 = c := by unfold btI; rw [if_pos (by omega), s2]
  have f2 : FrE M (upM M1 819 10 (ii ((b1 : Int) - b0) + ii 1)) := a5.tr FrE.up
  obtain ⟨M3, y3, d1, d2, d3, d4, d5⟩ := he _ X A T j b0 e0 (b1 + 1) (lv + 1) (by omega) (hE.fr f2) (hT.fr f2) hen (by omega) s5 g1 g2 (by rw [up_s, if_pos rfl, ii_add]; congr 1; omega)
  obtain ⟨M4, r1, r2, r3⟩ := S31 (X := X) (hT.fr (f2.tr d5)) d4 d3 g1 (fun w => hnb (by omega)) d2
  have hy := d3.1
  have go : ev true 282 lv 22 [pR 13 819, pI (v (pvA A j)), pI (ii c), z3] [] M1 X = ev true 282 lv 10 [pR 13 819, pI (tog o (v (pvA A j)) (v2 (pvA A j))), pI (ii (btI D e0 b3)), pI (v2 (pvA A j))] [] M4 X := by
    rw [q282_22, blt40 (by omega), cond_true, a2, i_1, d1, kb1, q282_36, i_43]
    rcases ho with e | e
    · have ec : c = 43 := by
        rcases hc2 with w | w
        · exact w
        · have := (sg_in e.2).2.1; omega
      rw [ec, eqT rfl, q282_52, r1, kb1, q282_57, e.1, tog11]
    · have ec : c = 45 := by
        rcases hc2 with w | w
        · have := (sg_in e.2).2.1; omega
        · exact w
      rw [ec, eqF (by omega), q282_52, r1, kb1, q282_57, e.1, tog12]
  refine ⟨M4, pI (v2 (pvA A j)), ?_, r2, by omega, f2.tr (d5.tr r3)⟩
  rw [a1, eb, q282_10, i_43, i_45]
  rcases hc2 with w | w
  · rw [w, eqT rfl, ← w]; exact go
  · rw [w, eqF (by omega), eqT rfl, ← w]; exact go
theorem EvU.last (h1 : EvU D n L b b1 v) (hs : sgB D n b1 43 = false) (hs2 : sgB D n b1 45 = false) : EvG D n 282 [pR 13 819, p0, p0, p0] L b b1 v := by
  intro M X A T j b0 e0 x lv hl hE hT hen hx hat g1 g2 h10
  obtain ⟨M1, z3, a1, a2, a3, a5⟩ := h1 M X A T j b0 e0 x lv hl hE hT hen hx hat g1 g2 h10
  refine ⟨M1, b1, ?_, a2, AtB.rf, a3, a5⟩
  have eb : btI D e0 b1 ≠ 43 ∧ btI D e0 b1 ≠ 45 ∧ -1 ≤ btI D e0 b1 ∧ btI D e0 b1 < 256 := by
    unfold btI
    by_cases k : b1 < e0
    · have := hT.2.2.2 b1 (by omega) k
      rw [if_pos k]
      exact ⟨sg_no hs (by decide) (by omega), sg_no hs2 (by decide) (by omega), by omega, by omega⟩
    · rw [if_neg k]; omega
  rw [a1, q282_10, i_43, i_45, eqF (by omega), eqF (by omega)]
end RPT
