/-! questions: both sides read a test alike -/
section QST
set_option maxRecDepth 100000
variable {z y a c lo hi N x T j o : Int} {M M' M0 M1 M2 : Mem} {X : PX} {n m i t b b' b1 b2 b3 d k e lv L nn nb h h2 : Nat} {p : Int} {D : Nat → Int} {P : PS} {cs w ps c1 : List Int} {q : Int × Nat} {A : AT} {v v2 : (Int → Int32) → Bool} {g g2 : (Int → Int32) → Int32}
def RVo (D : Nat → Int) (n id : Nat) (ls : List PV) (L b d : Nat) (P' : PS) (v : (Int → Int32) → Bool) : Prop := ∀ (M : Mem) (X : PX) (A : AT) (T p : Int) (lv : Nat), lv ≤ L → RTP M D n (.inl b) → EQ M A T p → M 819 26 = ii d → ∃ M' x, ev true id lv 0 ls [] M X = some (.inl (some (pI (bI x))), M', X) ∧ RTP M' D n P' ∧ FrP M M' ∧ (iF P' → x = v (pvP A p))
def FactOK (D : Nat → Int) (n b d : Nat) : Prop := ∃ P' v c1, RVo D n 295 [pR 13 819, p0, p0, p0] (3 * d + 2) b d P' v ∧
  (∀ q, P' = .inr q → ∀ k nn nb cs w, nn + nb = d → k ≤ nn → w.length + k ≤ 3 * d + 2 → topL w 3 → QBad D n b 1 nn nb cs (rp k ++ w) q) ∧
  ∀ b', P' = .inl b' → b < b' ∧ b' ≤ n ∧ NB D n b' ∧ (∀ k nn nb cs w, nn + nb = d → k ≤ nn → w.length + k ≤ 3 * d + 2 → topL w 3 → QGo D n b 1 nn nb cs (rp k ++ w) b' 0 (nn - k) nb (cs ++ c1 ++ rp k) w) ∧ VSt c1 (3 * (6 - d) + 2) (fun pv => bI (v pv))
def ChOK (D : Nat → Int) (n id : Nat) (r : Nat) (st : Int) (b d : Nat) : Prop := ∃ P' v, RVo D n id [pR 13 819, p0, p0] (3 * d + r) b d P' v ∧
  (∀ q, P' = .inr q → ∀ nn nb cs w, nn + nb = d → w.length ≤ 3 * d + r → topL w st → QBad D n b 1 nn nb cs w q) ∧
  ∀ b', P' = .inl b' → b < b' ∧ b' ≤ n ∧ NB D n b' ∧ wdB D n b' 0 = false ∧ (r = 0 → wdB D n b' 11 = false) ∧ ∃ c1 ps, (∀ x, x ∈ ps → st ≤ stg x) ∧ ps.length ≤ 1 + (1 - r) ∧ (∀ nn nb cs w, nn + nb = d → w.length ≤ 3 * d + r → topL w st → QGo D n b 1 nn nb cs w b' 0 nn nb (cs ++ c1) (ps ++ w)) ∧ VSt (c1 ++ ps) (3 * (6 - d) + (4 - r)) (fun pv => bI (v pv))
def BothOK (D : Nat → Int) (n b d : Nat) : Prop := ChOK D n 294 1 2 b d
def TestOK (D : Nat → Int) (n b d : Nat) : Prop := ChOK D n 293 0 1 b d
theorem VSt.nt (h1 : VSt cs h g) : VSt (cs ++ [-19]) h (fun pv => ii 1 - g pv) := by
  intro pv st hs
  rw [evS_ap, h1 pv st hs]
  show (stp1 pv (-19) (g pv :: st)).bind (evS pv []) = _
  rfl
theorem vs_q (hv : vlS D n (.inl b) = .inl b1) : VSt [qcC D n b] 1 (qvV D n b) := by
  have hq := qa_le D n b
  unfold qcC qvV
  by_cases k : qaI D n b = -1
  · rw [vlS_l, if_pos k, numS_l] at hv
    by_cases c2 : tK D n b = 2
    · have := nuV_in c2
      rw [if_pos k]
      have e : (fun pv : Int → Int32 => if qaI D n b = -1 then ii (nuV D n b) else pv (qaI D n b)) = fun _ => ii (nuV D n b) := funext fun pv => if_pos k
      rw [e]
      exact VSt.num this.1 (by omega)
    · rw [if_neg c2] at hv; cases hv
  · rw [if_neg k]
    have e : (fun pv : Int → Int32 => if qaI D n b = -1 then ii (nuV D n b) else pv (qaI D n b)) = fun pv => pv (qaI D n b) := funext fun pv => if_neg k
    rw [e]
    exact VSt.prt (by omega) (by omega)
theorem tog_cm (ho : o = -14 ∨ o = -15 ∨ o = -16) (x y : Int32) : tog o x y = bI (cmV o x y) := by
  rcases ho with rfl | rfl | rfl
  · show (if x < y then ii 1 else ii 0) = bI (decide (x < y))
    exact bI_ite
  · show (if x = y then ii 1 else ii 0) = bI (decide (x = y))
    exact bI_ite
  · show (if y < x then ii 1 else ii 0) = bI (decide (y < x))
    exact bI_ite
theorem fact_cmp (hn : n ≤ 200) (h0 : wdB D n b 10 = false) (h1 : sgB D n b 123 = false) (hb : b ≤ n) (hd : d ≤ 6) : FactOK D n b d := by
  refine ⟨fcS D n b, fcV D n b, fcC D n b, fun M X A T p lv _ hr hq _ => ?_, fun q hF k nn nb cs w q1 q2 q3 q4 => ?_, fun b' hF => ?_⟩
  · obtain ⟨M', r, a1, a2, a3, a4⟩ := R295g (lv := lv) (X := X) hr hq h0 h1
    exact ⟨M', r, a1, a2, a3, fun wf => a4 b rfl wf⟩
  · exact q_fbad hn h0 h1 hF (rp_top q4) (by rw [List.length_append, List.length_replicate]; omega)
  · obtain ⟨f1, f2, f3, f4, f5, f6⟩ := fc_in hF hb
    refine ⟨by omega, f2, f3, fun k nn nb cs w q1 q2 q3 q4 => q_fact hn h0 h1 hF q4 q2 (by omega), ?_⟩
    have ho : cmC D n (nxD D n b) = -14 ∨ cmC D n (nxD D n b) = -15 ∨ cmC D n (nxD D n b) = -16 := by
      rcases cm_in D n (nxD D n b) with e | e | e | e
      · exact absurd e f5
      · exact Or.inl e.1
      · exact Or.inr (Or.inl e.1)
      · exact Or.inr (Or.inr e.1)
    have hv := VSt.op (h := 2) (h2 := 1) ((vs_q f4).le (by omega)) (vs_q f6) (by omega) (o := cmC D n (nxD D n b)) (by omega)
    have e : (fun pv => tog (cmC D n (nxD D n b)) (qvV D n b pv) (qvV D n (nxD D n (nxD D n b)) pv)) = fun pv => bI (fcV D n b pv) := funext fun pv => tog_cm ho _ _
    rw [e] at hv
    exact hv.le (by omega)
/-- one goes in, the reference -/
def FrO (M M' : Mem) : Prop := (∀ b, b ≠ 819 → M' b = M b) ∧ ∀ k, k < 19 ∨ 24 < k → k ≠ 26 → M' 819 k = M 819 k
theorem FrP.O (h : FrP M M') : FrO M M' := ⟨h.1, fun k hk _ => h.2 k hk⟩
theorem FrO.tr {M1 M2 M3 : Mem} (h1 : FrO M1 M2) (h2 : FrO M2 M3) : FrO M1 M3 := ⟨fun b h => (h2.1 b h).trans (h1.1 b h), fun k h e => (h2.2 k h e).trans (h1.2 k h e)⟩
theorem FrO.up {v : Int32} : FrO M (upM M 819 26 v) := ⟨fun b h => by funext y; exact up_n h, fun k _ e => up_d e⟩
theorem EQ.mo (h : EQ M A T p) (hf : FrO M M') : EQ M' A T p := ⟨WR_k h.1 (hf.1 820 (by decide)), h.2.1, (hf.2 27 (by omega) (by omega)).trans h.2.2⟩
theorem FrO.bk (h : FrO M M') (h26 : M 819 26 = ii d) : FrP M (upM M' 819 26 (ii d)) := ⟨fun b hb => by rw [← h.1 b hb]; funext y; exact up_n hb, fun k hk => by
  by_cases e : k = 26
  · subst e; rw [up_s, if_pos rfl, h26]
  · rw [up_d e, h.2 k hk e]⟩
theorem RTP.u26 {v : Int32} (h : RTP M D n P) : RTP (upM M 819 26 v) D n P := h.kp (fun k k1 k2 => up_d (by omega)) (by funext y; exact up_n (by decide))
theorem S221 (hr : RTP M D n (.inl b)) (h26 : M 819 26 = ii d) (hd : d ≤ 6) : ∃ M', ev true 221 0 0 [pR 13 819] [] M X = some (.inl none, M', X) ∧ RTP M' D n (if d = 6 then .inr (3, b) else .inl (nxD D n b)) ∧ FrO M M' ∧ M' 819 26 = ii (d + 1 : Nat) := by
  have b23 := hr.2.2.2.2.2.2
  by_cases c : d = 6
  · obtain ⟨M1, a1, a2, a3⟩ := S46 (X := X) hr (c := 3) (by omega)
    have a2 : RTP M1 D n (.inr (3, b)) := a2
    obtain ⟨M2, b1, b2, b3⟩ := S192 (X := X) (a2.u26 (v := ii (d + 1 : Nat)))
    have e26 : M1 819 26 = ii d := (a3.2 26 (by omega)).trans h26
    refine ⟨M2, ?_, by rw [if_pos c]; exact b2, a3.O.tr (FrO.up.tr b3.O), by rw [b3.2 26 (by omega), up_s, if_pos rfl]⟩
    rw [q221_0, b23, i_0, eqT rfl, h26, i_6, eqT (by omega), i_3, a1, kb0, q221_21, e26, i_1, ii_add]
    show (ev true 192 0 0 [pR 13 819] [] (upM M1 819 26 (ii (d + 1 : Nat))) X).bind _ = _
    rw [b1, kb0, q221_35]
  · obtain ⟨M2, b1, b2, b3⟩ := S192 (X := X) (hr.u26 (v := ii (d + 1 : Nat)))
    refine ⟨M2, ?_, by rw [if_neg c]; exact b2, FrO.up.tr b3.O, by rw [b3.2 26 (by omega), up_s, if_pos rfl]⟩
    rw [q221_0, b23, i_0, eqT rfl, h26, i_6, eqF (by omega), q221_21, h26, i_1, ii_add]
    show (ev true 192 0 0 [pR 13 819] [] (upM M 819 26 (ii (d + 1 : Nat))) X).bind _ = _
    rw [b1, kb0, q221_35]
/-- 'not' ahead of a fact, the reference -/
theorem R_not {r : Bool} {z1 z2 z3 : PV} (h26 : M 819 26 = ii (d + 1 : Nat)) : ev true 295 lv 18 [pR 13 819, z1, z2, z3] [pI (bI r)] M X = some (.inl (some (pI (bI (!r)))), upM M 819 26 (ii d), X) := by
  rw [q295_18, i_0, bIT, h26, i_1, ii_sub, show (((d + 1 : Nat) : Int) - 1) = d by omega]
  cases r with
  | true => rw [cond_true, q295_38, rk0]; rfl
  | false => rw [cond_false, q295_38, rk1]; rfl
theorem fact_deep (hn : n ≤ 200) (hs : wdB D n b 10 = true ∨ (wdB D n b 10 = false ∧ sgB D n b 123 = true)) (hd : d = 6) : FactOK D n b d := by
  refine ⟨.inr (3, b), fun _ => true, [], fun M X A T p lv hl hr hq h26 => ?_, fun q hF k nn nb cs w q1 q2 q3 q4 => ?_, fun b' hF => by cases hF⟩
  · obtain ⟨M1, a1, a2, a3, a4⟩ := S221 (X := X) hr h26 (by omega)
    rw [if_pos hd] at a2
    rcases hs with hs | ⟨h0, hs⟩
    · obtain ⟨M2, r, b1, b2, b3⟩ := R295f (lv := lv + 1) (X := X) a2 (hq.mo a3)
      refine ⟨upM M2 819 26 (ii d), !r, ?_, b2.u26, (a3.tr b3.O).bk h26, fun w => niF w⟩
      rw [q295_0, S238 hr, kb1, q295_7, i_0, bIT, wdR_l, hs, cond_true, a1, kb0, q295_14, blt40 (by omega), cond_true, b1, kb1, R_not ((b3.2 26 (by omega)).trans a4)]
    · obtain ⟨M2, r, b1, b2, b3⟩ := R293f (lv := lv + 1) (X := X) a2 (hq.mo a3) (by omega)
      obtain ⟨M3, c1, c2, c3⟩ := S219 (X := X) (c := 125) b2 (by omega)
      have c2 : RTP M3 D n (.inr (3, b)) := c2
      have e26 : M3 819 26 = ii (d + 1 : Nat) := by rw [c3.2 26 (by omega), b3.2 26 (by omega), a4]
      refine ⟨upM M3 819 26 (ii d), r, ?_, c2.u26, (a3.tr (b3.O.tr c3.O)).bk h26, fun w => niF w⟩
      rw [q295_0, S238 hr, kb1, q295_7, i_0, bIT, wdR_l, h0, cond_false, i_123, S47 hr (by omega), kb1, q295_45, i_0, bIT, sgR_l, hs, cond_true, a1, kb0, q295_52, blt40 (by omega), cond_true, b1, kb1, q295_56, i_125, c1, kb0, q295_63, rkT, e26, i_1, ii_sub, show (((d + 1 : Nat) : Int) - 1) = d by omega]
  · cases hF
    exact q_deep hn hs (by omega)
theorem fact_not (hn : n ≤ 200) (hs : wdB D n b 10 = true) (hb : b ≤ n) (hd : d < 6) (hF : FactOK D n (nxD D n b) (d + 1)) : FactOK D n b d := by
  obtain ⟨P1, v, c1, r1, r2, r3⟩ := hF
  have hlt := (nx_in (D := D) hb).2.2 (tk_lt (D := D) (n := n) (b := b) (by have := (wdB_t.1 hs).1; omega)).1
  refine ⟨P1, fun pv => !v pv, c1 ++ [-19], fun M X A T p lv hl hr hq h26 => ?_, fun q hP k nn nb cs w q1 q2 q3 q4 => ?_, fun b' hP => ?_⟩
  · obtain ⟨M1, a1, a2, a3, a4⟩ := S221 (X := X) hr h26 (by omega)
    rw [if_neg (by omega)] at a2
    obtain ⟨M2, x, b1, b2, b3, b4⟩ := r1 M1 X A T p (lv + 1) (by omega) a2 (hq.mo a3) a4
    refine ⟨upM M2 819 26 (ii d), !x, ?_, b2.u26, (a3.tr b3.O).bk h26, fun w => by rw [b4 w]⟩
    rw [q295_0, S238 hr, kb1, q295_7, i_0, bIT, wdR_l, hs, cond_true, a1, kb0, q295_14, blt40 (by omega), cond_true, b1, kb1, R_not ((b3.2 26 (by omega)).trans a4)]
  · exact (q_not hn hs (by omega) (by rw [List.length_append, List.length_replicate]; omega)).bad (r2 q hP (k + 1) (nn + 1) nb cs w (by omega) (by omega) (by omega) q4)
  · obtain ⟨g1, g2, g3, g4, g5⟩ := r3 b' hP
    refine ⟨by omega, g2, g3, fun k nn nb cs w q1 q2 q3 q4 => ?_, ?_⟩
    · have h9 := (q_not (w := rp k ++ w) (cs := cs) (nn := nn) (nb := nb) hn hs (by omega) (by rw [List.length_append, List.length_replicate]; omega)).tr (g4 (k + 1) (nn + 1) nb cs w (by omega) (by omega) (by omega) q4)
      rw [show nn + 1 - (k + 1) = nn - k by omega] at h9
      have ea : cs ++ c1 ++ rp (k + 1) = cs ++ (c1 ++ [-19]) ++ rp k := by
        rw [List.append_assoc cs c1, List.append_assoc cs, List.append_assoc c1]
        rfl
      rw [ea] at h9
      exact h9
    · have h9 := g5.nt
      have e : (fun pv : Int → Int32 => ii 1 - bI (v pv)) = fun pv => bI (!v pv) := funext fun pv => by cases v pv <;> decide
      rw [e] at h9
      exact h9.le (by omega)
theorem fact_brc (hn : n ≤ 200) (h0 : wdB D n b 10 = false) (hs : sgB D n b 123 = true) (hb : b ≤ n) (hd : d < 6) (hT : TestOK D n (nxD D n b) (d + 1)) : FactOK D n b d := by
  obtain ⟨P1, v, r1, r2, r3⟩ := hT
  have hlt := (nx_in (D := D) hb).2.2 (sg_in hs).1
  have ref : RVo D n 295 [pR 13 819, p0, p0, p0] (3 * d + 2) b d (signS D n 125 P1) v := by
    intro M X A T p lv hl hr hq h26
    obtain ⟨M1, a1, a2, a3, a4⟩ := S221 (X := X) hr h26 (by omega)
    rw [if_neg (by omega)] at a2
    obtain ⟨M2, x, b1, b2, b3, b4⟩ := r1 M1 X A T p (lv + 1) (by omega) a2 (hq.mo a3) a4
    obtain ⟨M3, c1, c2, c3⟩ := S219 (X := X) (c := 125) b2 (by omega)
    have e26 : M3 819 26 = ii (d + 1 : Nat) := by rw [c3.2 26 (by omega), b3.2 26 (by omega), a4]
    refine ⟨upM M3 819 26 (ii d), x, ?_, c2.u26, (a3.tr (b3.O.tr c3.O)).bk h26, fun w => b4 (iF_sg w)⟩
    rw [q295_0, S238 hr, kb1, q295_7, i_0, bIT, wdR_l, h0, cond_false, i_123, S47 hr (by omega), kb1, q295_45, i_0, bIT, sgR_l, hs, cond_true, a1, kb0, q295_52, blt40 (by omega), cond_true, b1, kb1, q295_56, i_125, c1, kb0, q295_63, rkT, e26, i_1, ii_sub, show (((d + 1 : Nat) : Int) - 1) = d by omega]
  have tp : ∀ w : List Int, topL (-20 :: w) 1 := fun w x t e => by cases e; decide
  have opn : ∀ k nn nb cs w, nn + nb = d → w.length + k ≤ 3 * d + 2 → QGo D n b 1 nn nb cs (rp k ++ w) (nxD D n b) 1 nn (nb + 1) cs (-20 :: (rp k ++ w)) := fun k nn nb cs w q1 q3 => q_brc hn h0 hs (by omega) (by rw [List.length_append, List.length_replicate]; omega)
  have len : ∀ (k : Nat) (w : List Int), (-20 :: (rp k ++ w)).length = w.length + k + 1 := fun k w => by rw [List.length_cons, List.length_append, List.length_replicate]; omega
  cases P1 with
  | inr f =>
    refine ⟨.inr f, v, [], ref, fun q hP k nn nb cs w q1 q2 q3 q4 => ?_, fun b' hP => by cases hP⟩
    cases hP
    exact (opn k nn nb cs w q1 q3).bad (r2 f rfl nn (nb + 1) cs _ (by omega) (by rw [len]; omega) (tp _))
  | inl b2 =>
    obtain ⟨g1, g2, g3, g4, g5, c1, ps, g6, g7, g8, g9⟩ := r3 b2 rfl
    have g5 := g5 rfl
    have go : ∀ k nn nb cs w, nn + nb = d → w.length + k ≤ 3 * d + 2 → QGo D n b 1 nn nb cs (rp k ++ w) b2 0 nn (nb + 1) (cs ++ c1) (ps ++ (-20 :: (rp k ++ w))) := fun k nn nb cs w q1 q3 => (opn k nn nb cs w q1 q3).tr (g8 nn (nb + 1) cs _ (by omega) (by rw [len]; omega) (tp _))
    cases hs2 : sgB D n b2 125 with
    | false =>
      have er : signS D n 125 (.inl b2) = .inr (1, b2) := by show (bif sgB D n b2 125 then _ else _) = _; rw [hs2]; rfl
      rw [er] at ref
      refine ⟨.inr (1, b2), v, [], ref, fun q hP k nn nb cs w q1 q2 q3 q4 => ?_, fun b' hP => by cases hP⟩
      cases hP
      exact (go k nn nb cs w q1 q3).bad (q_sbad hn g4 g5 hs2 (by omega) (by omega))
    | true =>
      have er : signS D n 125 (.inl b2) = .inl (nxD D n b2) := by show (bif sgB D n b2 125 then _ else _) = _; rw [hs2]; rfl
      rw [er] at ref
      obtain ⟨u1, u2, u3, u4, u5, u6, u7⟩ := sg_in hs2
      refine ⟨.inl (nxD D n b2), v, c1 ++ ps, ref, fun q hP => (by cases hP), fun b' hP => ?_⟩
      cases hP
      refine ⟨by omega, u6, u7, fun k nn nb cs w q1 q2 q3 q4 => ?_, g9.le (by omega)⟩
      have h9 := (go k nn nb cs w q1 q3).tr (q_shut (cs := cs ++ c1) (ps := ps) (k := k) (nn := nn) (nb := nb + 1) hn g4 g5 hs2 (by omega) g6 q4 q2)
      rw [List.append_assoc cs c1 ps, show nb + 1 - 1 = nb by omega] at h9
      exact h9
theorem tog_and (a b : Bool) : tog (-17) (bI a) (bI b) = bI (a && b) := by cases a <;> cases b <;> decide
theorem tog_or (a b : Bool) : tog (-18) (bI a) (bI b) = bI (a || b) := by cases a <;> cases b <;> decide
theorem R294_23 {a b : Bool} {z2 : PV} : ∃ z, ev true 294 lv 23 [pR 13 819, pI (bI a), z2] [pI (bI b)] M X = ev true 294 lv 5 [pR 13 819, pI (bI (a && b)), z] [] M X := by
  refine ⟨pI (bI b), ?_⟩
  rw [q294_23, i_0, bIT, bIT]
  cases a with
  | false => rw [cond_false, q294_36, q294_37]; rfl
  | true =>
    cases b with
    | false => rw [cond_true, cond_false, q294_36, q294_37]; rfl
    | true => rw [cond_true, cond_true, q294_37]; rfl
theorem R293_23 {a b : Bool} {z2 : PV} : ∃ z, ev true 293 lv 23 [pR 13 819, pI (bI a), z2] [pI (bI b)] M X = ev true 293 lv 5 [pR 13 819, pI (bI (a || b)), z] [] M X := by
  refine ⟨pI (bI b), ?_⟩
  rw [q293_23, i_0, bIT, bIT]
  cases a with
  | true => rw [cond_true, q293_32, q293_37]; rfl
  | false =>
    cases b with
    | false => rw [cond_false, cond_false, q293_37]; rfl
    | true => rw [cond_false, cond_true, q293_32, q293_37]; rfl
def BPre (D : Nat → Int) (n b d b1 : Nat) (c1 ps : List Int) (v : (Int → Int32) → Bool) : Prop :=
  b < b1 ∧ b1 ≤ n ∧ NB D n b1 ∧ (∀ x, x ∈ ps → 2 ≤ stg x) ∧ ps.length ≤ 1 ∧
  (∀ (M : Mem) (X : PX) (A : AT) (T p : Int) (lv : Nat), lv ≤ 3 * d + 1 → RTP M D n (.inl b) → EQ M A T p → M 819 26 = ii d → ∃ M' z, ev true 294 lv 0 [pR 13 819, p0, p0] [] M X = ev true 294 lv 5 [pR 13 819, pI (bI (v (pvP A p))), z] [] M' X ∧ RTP M' D n (.inl b1) ∧ FrP M M') ∧
  (∀ nn nb cs w, nn + nb = d → w.length ≤ 3 * d + 1 → topL w 2 → QGo D n b 1 nn nb cs w b1 0 nn nb (cs ++ c1) (ps ++ w)) ∧ VSt (c1 ++ ps) (3 * (6 - d) + 3) (fun pv => bI (v pv))
theorem both_lp (hn : n ≤ 200) (hd : d ≤ 6) (hP : ∀ b2, b < b2 → b2 ≤ n → NB D n b2 → FactOK D n b2 d) : ∀ (m b1 : Nat) (c1 ps : List Int) (v : (Int → Int32) → Bool), n - b1 ≤ m → BPre D n b d b1 c1 ps v → BothOK D n b d := by
  have stop : ∀ (b1 : Nat) (c1 ps : List Int) (v : (Int → Int32) → Bool), BPre D n b d b1 c1 ps v → wdB D n b1 0 = false → BothOK D n b d := by
    intro b1 c1 ps v ⟨h1, h2, h3, h4, h5, h6, h7, h8⟩ hs
    refine ⟨.inl b1, v, fun M X A T p lv hl hr hq h26 => ?_, fun q hF => (by cases hF), fun b' hb' => ?_⟩
    · obtain ⟨M', z, a1, a2, a3⟩ := h6 M X A T p lv hl hr hq h26
      exact ⟨M', v (pvP A p), by rw [a1, q294_5, S238 a2, kb1, q294_12, i_0, bIT, wdR_l, hs, cond_false, rkT], a2, a3, fun _ => rfl⟩
    · cases hb'
      exact ⟨h1, h2, h3, hs, fun w => absurd w (by decide), c1, ps, h4, by omega, h7, h8⟩
  intro m
  induction m with
  | zero =>
    intro b1 c1 ps v hm hh
    refine stop b1 c1 ps v hh ?_
    cases hs : wdB D n b1 0
    · rfl
    · have := (tk_lt (D := D) (n := n) (b := b1) (by have := (wdB_t.1 hs).1; omega)).1
      omega
  | succ m ih =>
    intro b1 c1 ps v hm hh
    cases hs : wdB D n b1 0 with
    | false => exact stop b1 c1 ps v hh hs
    | true =>
      obtain ⟨h1, h2, h3, h4, h5, h6, h7, h8⟩ := hh
      have hx := nx_in (D := D) h2
      have hlt := hx.2.2 (tk_lt (D := D) (n := n) (b := b1) (by have := (wdB_t.1 hs).1; omega)).1
      have hnb := (nx_at (D := D) h2).2
      obtain ⟨P2, v2, c2, r1, r2, r3⟩ := hP (nxD D n b1) (by omega) hx.2.1 hnb
      have e17 : stg (-17) = 2 := by decide
      have tp : ∀ w : List Int, topL (-17 :: w) 3 := fun w x t e => by cases e; decide
      have ref : ∀ (M : Mem) (X : PX) (A : AT) (T p : Int) (lv : Nat), lv ≤ 3 * d + 1 → RTP M D n (.inl b) → EQ M A T p → M 819 26 = ii d → ∃ M' z x, ev true 294 lv 0 [pR 13 819, p0, p0] [] M X = ev true 294 lv 5 [pR 13 819, pI (bI (v (pvP A p) && x)), z] [] M' X ∧ RTP M' D n P2 ∧ FrP M M' ∧ (iF P2 → x = v2 (pvP A p)) := by
        intro M X A T p lv hl hr hq h26
        obtain ⟨M1, z, a1, a2, a3⟩ := h6 M X A T p lv hl hr hq h26
        obtain ⟨M2, b1', b2', b3'⟩ := S192 (X := X) a2
        obtain ⟨M3, x, d1, d2, d3, d4⟩ := r1 M2 X A T p (lv + 1) (by omega) b2' ((hq.mv a3).mv b3') (by rw [b3'.2 26 (by omega), a3.2 26 (by omega)]; exact h26)
        obtain ⟨z', hz'⟩ := R294_23 (lv := lv) (M := M3) (X := X) (a := v (pvP A p)) (b := x) (z2 := z)
        refine ⟨M3, z', x, ?_, d2, a3.tr (b3'.tr d3), d4⟩
        rw [a1, q294_5, S238 a2, kb1, q294_12, i_0, bIT, wdR_l, hs, cond_true, b1', kb0, q294_19, blt40 (by omega), cond_true, d1, kb1, hz']
      have go1 : ∀ nn nb cs w, nn + nb = d → w.length ≤ 3 * d + 1 → topL w 2 → QGo D n b 1 nn nb cs w (nxD D n b1) 1 nn nb (cs ++ (c1 ++ ps)) (-17 :: w) := by
        intro nn nb cs w q1 hw ht
        obtain ⟨e1, e2⟩ := set_ap (ps := ps) (w := w) (k := 2) h4 ht
        have ho := q_op (cs := cs ++ c1) (w := ps ++ w) (nn := nn) (nb := nb) (o := -17) hn (Or.inl ⟨hs, rfl⟩) (by rw [e17, e2]; omega)
        rw [e17, e1, e2, List.append_assoc] at ho
        exact (h7 nn nb cs w q1 hw ht).tr ho
      cases P2 with
      | inr f =>
        refine ⟨.inr f, v, fun M X A T p lv hl hr hq h26 => ?_, fun q hF nn nb cs w q1 hw ht => ?_, fun b' hb' => by cases hb'⟩
        · obtain ⟨M', z, x, a1, a2, a3, a4⟩ := ref M X A T p lv hl hr hq h26
          exact ⟨M', v (pvP A p) && x, a1.trans (R294f5 a2), a2, a3, fun w => niF w⟩
        · cases hF
          exact (go1 nn nb cs w q1 hw ht).bad (r2 f rfl 0 nn nb _ (-17 :: w) q1 (Nat.zero_le _) (by rw [List.length_cons]; omega) (tp w))
      | inl b3 =>
        obtain ⟨g1, g2, g3, g4, g5⟩ := r3 b3 rfl
        refine ih b3 (c1 ++ ps ++ c2) [-17] (fun pv => v pv && v2 pv) (by omega) ⟨by omega, g2, g3, fun x hx => ?_, Nat.le_refl _, fun M X A T p lv hl hr hq h26 => ?_, fun nn nb cs w q1 hw ht => ?_, ?_⟩
        · have : x = -17 := by simpa using hx
          rw [this, e17]
          omega
        · obtain ⟨M', z, x, a1, a2, a3, a4⟩ := ref M X A T p lv hl hr hq h26
          rw [a4 ⟨b3, rfl⟩] at a1
          exact ⟨M', z, a1, a2, a3⟩
        · have h9 := (go1 nn nb cs w q1 hw ht).tr (g4 0 nn nb (cs ++ (c1 ++ ps)) (-17 :: w) q1 (Nat.zero_le _) (by rw [List.length_cons]; omega) (tp w))
          have ea : cs ++ (c1 ++ ps) ++ c2 ++ rp 0 = cs ++ (c1 ++ ps ++ c2) := by
            rw [show rp 0 = [] from rfl, List.append_nil, List.append_assoc]
          rw [ea] at h9
          exact h9
        · have h9 := VSt.op (o := -17) (h2 := 3 * (6 - d) + 2) h8 g5 (by omega) (by omega)
          have e : (fun pv : Int → Int32 => tog (-17) (bI (v pv)) (bI (v2 pv))) = fun pv => bI (v pv && v2 pv) := funext fun pv => tog_and _ _
          rw [e] at h9
          exact h9
theorem both_ok (hn : n ≤ 200) (hd : d ≤ 6) (hb : b ≤ n) (hnb : NB D n b) (hP : ∀ b1, b ≤ b1 → b1 ≤ n → NB D n b1 → FactOK D n b1 d) : BothOK D n b d := by
  obtain ⟨P1, v, c1, r1, r2, r3⟩ := hP b (Nat.le_refl _) hb hnb
  have ref : ∀ (M : Mem) (X : PX) (A : AT) (T p : Int) (lv : Nat), lv ≤ 3 * d + 1 → RTP M D n (.inl b) → EQ M A T p → M 819 26 = ii d → ∃ M' x, ev true 294 lv 0 [pR 13 819, p0, p0] [] M X = ev true 294 lv 5 [pR 13 819, pI (bI x), p0] [] M' X ∧ RTP M' D n P1 ∧ FrP M M' ∧ (iF P1 → x = v (pvP A p)) := by
    intro M X A T p lv hl hr hq h26
    obtain ⟨M', x, a1, a2, a3, a4⟩ := r1 M X A T p (lv + 1) (by omega) hr hq h26
    exact ⟨M', x, by rw [q294_0, blt40 (by omega), cond_true, a1, kb1, q294_4], a2, a3, a4⟩
  cases P1 with
  | inr f =>
    refine ⟨.inr f, v, fun M X A T p lv hl hr hq h26 => ?_, fun q hF nn nb cs w q1 hw ht => ?_, fun b' hb' => by cases hb'⟩
    · obtain ⟨M', x, a1, a2, a3, a4⟩ := ref M X A T p lv hl hr hq h26
      exact ⟨M', x, a1.trans (R294f5 a2), a2, a3, fun w => niF w⟩
    · cases hF
      exact r2 f rfl 0 nn nb cs w q1 (Nat.zero_le _) (by omega) (topL_le ht (by omega))
  | inl b1 =>
    obtain ⟨g1, g2, g3, g4, g5⟩ := r3 b1 rfl
    refine both_lp hn hd (fun b2 k1 k2 k3 => hP b2 (by omega) k2 k3) (n - b1) b1 c1 [] v (Nat.le_refl _) ⟨g1, g2, g3, fun x hx => absurd hx List.not_mem_nil, Nat.zero_le _, fun M X A T p lv hl hr hq h26 => ?_, fun nn nb cs w q1 hw ht => ?_, ?_⟩
    · obtain ⟨M', x, a1, a2, a3, a4⟩ := ref M X A T p lv hl hr hq h26
      rw [a4 ⟨b1, rfl⟩] at a1
      exact ⟨M', _, a1, a2, a3⟩
    · have h9 := g4 0 nn nb cs w q1 (Nat.zero_le _) (by omega) (topL_le ht (by omega))
      rw [show cs ++ c1 ++ rp 0 = cs ++ c1 from List.append_nil _] at h9
      exact h9
    · rw [List.append_nil]
      exact g5.le (by omega)
def OPre (D : Nat → Int) (n b d b1 : Nat) (c1 ps : List Int) (v : (Int → Int32) → Bool) : Prop :=
  b < b1 ∧ b1 ≤ n ∧ NB D n b1 ∧ wdB D n b1 0 = false ∧ (∀ x, x ∈ ps → 1 ≤ stg x) ∧ ps.length ≤ 2 ∧
  (∀ (M : Mem) (X : PX) (A : AT) (T p : Int) (lv : Nat), lv ≤ 3 * d → RTP M D n (.inl b) → EQ M A T p → M 819 26 = ii d → ∃ M' z, ev true 293 lv 0 [pR 13 819, p0, p0] [] M X = ev true 293 lv 5 [pR 13 819, pI (bI (v (pvP A p))), z] [] M' X ∧ RTP M' D n (.inl b1) ∧ FrP M M') ∧
  (∀ nn nb cs w, nn + nb = d → w.length ≤ 3 * d → topL w 1 → QGo D n b 1 nn nb cs w b1 0 nn nb (cs ++ c1) (ps ++ w)) ∧ VSt (c1 ++ ps) (3 * (6 - d) + 4) (fun pv => bI (v pv))
theorem test_lp (hn : n ≤ 200) (hd : d ≤ 6) (hP : ∀ b2, b < b2 → b2 ≤ n → NB D n b2 → BothOK D n b2 d) : ∀ (m b1 : Nat) (c1 ps : List Int) (v : (Int → Int32) → Bool), n - b1 ≤ m → OPre D n b d b1 c1 ps v → TestOK D n b d := by
  have stop : ∀ (b1 : Nat) (c1 ps : List Int) (v : (Int → Int32) → Bool), OPre D n b d b1 c1 ps v → wdB D n b1 11 = false → TestOK D n b d := by
    intro b1 c1 ps v ⟨h1, h2, h3, h0, h4, h5, h6, h7, h8⟩ hs
    refine ⟨.inl b1, v, fun M X A T p lv hl hr hq h26 => ?_, fun q hF => (by cases hF), fun b' hb' => ?_⟩
    · obtain ⟨M', z, a1, a2, a3⟩ := h6 M X A T p lv hl hr hq h26
      exact ⟨M', v (pvP A p), by rw [a1, q293_5, S238 a2, kb1, q293_12, i_0, bIT, wdR_l, hs, cond_false, rkT], a2, a3, fun _ => rfl⟩
    · cases hb'
      exact ⟨h1, h2, h3, h0, fun _ => hs, c1, ps, h4, by omega, h7, h8⟩
  intro m
  induction m with
  | zero =>
    intro b1 c1 ps v hm hh
    refine stop b1 c1 ps v hh ?_
    cases hs : wdB D n b1 11
    · rfl
    · have := (tk_lt (D := D) (n := n) (b := b1) (by have := (wdB_t.1 hs).1; omega)).1
      omega
  | succ m ih =>
    intro b1 c1 ps v hm hh
    cases hs : wdB D n b1 11 with
    | false => exact stop b1 c1 ps v hh hs
    | true =>
      obtain ⟨h1, h2, h3, h0, h4, h5, h6, h7, h8⟩ := hh
      have hx := nx_in (D := D) h2
      have hlt := hx.2.2 (tk_lt (D := D) (n := n) (b := b1) (by have := (wdB_t.1 hs).1; omega)).1
      have hnb := (nx_at (D := D) h2).2
      obtain ⟨P2, v2, r1, r2, r3⟩ := hP (nxD D n b1) (by omega) hx.2.1 hnb
      have e18 : stg (-18) = 1 := by decide
      have tp : ∀ w : List Int, topL (-18 :: w) 2 := fun w x t e => by cases e; decide
      have ref : ∀ (M : Mem) (X : PX) (A : AT) (T p : Int) (lv : Nat), lv ≤ 3 * d → RTP M D n (.inl b) → EQ M A T p → M 819 26 = ii d → ∃ M' z x, ev true 293 lv 0 [pR 13 819, p0, p0] [] M X = ev true 293 lv 5 [pR 13 819, pI (bI (v (pvP A p) || x)), z] [] M' X ∧ RTP M' D n P2 ∧ FrP M M' ∧ (iF P2 → x = v2 (pvP A p)) := by
        intro M X A T p lv hl hr hq h26
        obtain ⟨M1, z, a1, a2, a3⟩ := h6 M X A T p lv hl hr hq h26
        obtain ⟨M2, b1', b2', b3'⟩ := S192 (X := X) a2
        obtain ⟨M3, x, d1, d2, d3, d4⟩ := r1 M2 X A T p (lv + 1) (by omega) b2' ((hq.mv a3).mv b3') (by rw [b3'.2 26 (by omega), a3.2 26 (by omega)]; exact h26)
        obtain ⟨z', hz'⟩ := R293_23 (lv := lv) (M := M3) (X := X) (a := v (pvP A p)) (b := x) (z2 := z)
        refine ⟨M3, z', x, ?_, d2, a3.tr (b3'.tr d3), d4⟩
        rw [a1, q293_5, S238 a2, kb1, q293_12, i_0, bIT, wdR_l, hs, cond_true, b1', kb0, q293_19, blt40 (by omega), cond_true, d1, kb1, hz']
      have go1 : ∀ nn nb cs w, nn + nb = d → w.length ≤ 3 * d → topL w 1 → QGo D n b 1 nn nb cs w (nxD D n b1) 1 nn nb (cs ++ (c1 ++ ps)) (-18 :: w) := by
        intro nn nb cs w q1 hw ht
        obtain ⟨e1, e2⟩ := set_ap (ps := ps) (w := w) (k := 1) h4 ht
        have ho := q_op (cs := cs ++ c1) (w := ps ++ w) (nn := nn) (nb := nb) (o := -18) hn (Or.inr ⟨h0, hs, rfl⟩) (by rw [e18, e2]; omega)
        rw [e18, e1, e2, List.append_assoc] at ho
        exact (h7 nn nb cs w q1 hw ht).tr ho
      cases P2 with
      | inr f =>
        refine ⟨.inr f, v, fun M X A T p lv hl hr hq h26 => ?_, fun q hF nn nb cs w q1 hw ht => ?_, fun b' hb' => by cases hb'⟩
        · obtain ⟨M', z, x, a1, a2, a3, a4⟩ := ref M X A T p lv hl hr hq h26
          exact ⟨M', v (pvP A p) || x, a1.trans (R293f5 a2), a2, a3, fun w => niF w⟩
        · cases hF
          exact (go1 nn nb cs w q1 hw ht).bad (r2 f rfl nn nb _ (-18 :: w) q1 (by rw [List.length_cons]; omega) (tp w))
      | inl b3 =>
        obtain ⟨g1, g2, g3, g0, -, c2, ps2, g4, g5, g6, g7⟩ := r3 b3 rfl
        refine ih b3 (c1 ++ ps ++ c2) (ps2 ++ [-18]) (fun pv => v pv || v2 pv) (by omega) ⟨by omega, g2, g3, g0, fun x hx => ?_, by rw [len1]; omega, fun M X A T p lv hl hr hq h26 => ?_, fun nn nb cs w q1 hw ht => ?_, ?_⟩
        · rcases List.mem_append.1 hx with hx | hx
          · have := g4 x hx; omega
          · have : x = -18 := by simpa using hx
            rw [this, e18]
            omega
        · obtain ⟨M', z, x, a1, a2, a3, a4⟩ := ref M X A T p lv hl hr hq h26
          rw [a4 ⟨b3, rfl⟩] at a1
          exact ⟨M', z, a1, a2, a3⟩
        · have h9 := (go1 nn nb cs w q1 hw ht).tr (g6 nn nb (cs ++ (c1 ++ ps)) (-18 :: w) q1 (by rw [List.length_cons]; omega) (tp w))
          have ea : cs ++ (c1 ++ ps) ++ c2 = cs ++ (c1 ++ ps ++ c2) := by rw [List.append_assoc]
          have eb : ps2 ++ (-18 :: w) = ps2 ++ [-18] ++ w := by rw [List.append_assoc]; rfl
          rw [ea, eb] at h9
          exact h9
        · have h9 := VSt.op (o := -18) (h2 := 3 * (6 - d) + 3) h8 g7 (by omega) (by omega)
          have e : (fun pv : Int → Int32 => tog (-18) (bI (v pv)) (bI (v2 pv))) = fun pv => bI (v pv || v2 pv) := funext fun pv => tog_or _ _
          rw [e] at h9
          have ea : c1 ++ ps ++ (c2 ++ ps2) ++ [-18] = c1 ++ ps ++ c2 ++ (ps2 ++ [-18]) := by
            rw [List.append_assoc (c1 ++ ps) (c2 ++ ps2), List.append_assoc c2 ps2, List.append_assoc (c1 ++ ps) c2]
          rw [ea] at h9
          exact h9
theorem test_ok (hn : n ≤ 200) (hd : d ≤ 6) (hb : b ≤ n) (hnb : NB D n b) (hP : ∀ b1, b ≤ b1 → b1 ≤ n → NB D n b1 → BothOK D n b1 d) : TestOK D n b d := by
  obtain ⟨P1, v, r1, r2, r3⟩ := hP b (Nat.le_refl _) hb hnb
  have ref : ∀ (M : Mem) (X : PX) (A : AT) (T p : Int) (lv : Nat), lv ≤ 3 * d → RTP M D n (.inl b) → EQ M A T p → M 819 26 = ii d → ∃ M' x, ev true 293 lv 0 [pR 13 819, p0, p0] [] M X = ev true 293 lv 5 [pR 13 819, pI (bI x), p0] [] M' X ∧ RTP M' D n P1 ∧ FrP M M' ∧ (iF P1 → x = v (pvP A p)) := by
    intro M X A T p lv hl hr hq h26
    obtain ⟨M', x, a1, a2, a3, a4⟩ := r1 M X A T p (lv + 1) (by omega) hr hq h26
    exact ⟨M', x, by rw [q293_0, blt40 (by omega), cond_true, a1, kb1, q293_4], a2, a3, a4⟩
  cases P1 with
  | inr f =>
    refine ⟨.inr f, v, fun M X A T p lv hl hr hq h26 => ?_, fun q hF nn nb cs w q1 hw ht => ?_, fun b' hb' => by cases hb'⟩
    · obtain ⟨M', x, a1, a2, a3, a4⟩ := ref M X A T p lv hl hr hq h26
      exact ⟨M', x, a1.trans (R293f5 a2), a2, a3, fun w => niF w⟩
    · cases hF
      exact r2 f rfl nn nb cs w q1 (by omega) (topL_le ht (by omega))
  | inl b1 =>
    obtain ⟨g1, g2, g3, g0, -, c1, ps, g4, g5, g6, g7⟩ := r3 b1 rfl
    refine test_lp hn hd (fun b2 k1 k2 k3 => hP b2 (by omega) k2 k3) (n - b1) b1 c1 ps v (Nat.le_refl _) ⟨g1, g2, g3, g0, fun x hx => (by have := g4 x hx; omega), by omega, fun M X A T p lv hl hr hq h26 => ?_, fun nn nb cs w q1 hw ht => g6 nn nb cs w q1 (by omega) (topL_le ht (by omega)), g7.le (by omega)⟩
    obtain ⟨M', x, a1, a2, a3, a4⟩ := ref M X A T p lv hl hr hq h26
    rw [a4 ⟨b1, rfl⟩] at a1
    exact ⟨M', _, a1, a2, a3⟩
theorem q_st (hn : n ≤ 200) (hd : d ≤ 6) (hb : b ≤ n) (hnb : NB D n b) (ih : ∀ b1 d1, b < b1 → b1 ≤ n → NB D n b1 → d1 ≤ 6 → FactOK D n b1 d1 ∧ BothOK D n b1 d1 ∧ TestOK D n b1 d1) : FactOK D n b d ∧ BothOK D n b d ∧ TestOK D n b d := by
  have hx := nx_in (D := D) hb
  have hnx := (nx_at (D := D) hb).2
  have hF : FactOK D n b d := by
    cases h0 : wdB D n b 10 with
    | true =>
      by_cases c : d = 6
      · exact fact_deep hn (Or.inl h0) c
      · have hlt := hx.2.2 (tk_lt (D := D) (n := n) (b := b) (by have := (wdB_t.1 h0).1; omega)).1
        exact fact_not hn h0 hb (by omega) (ih _ (d + 1) hlt hx.2.1 hnx (by omega)).1
    | false =>
      cases h1 : sgB D n b 123 with
      | true =>
        by_cases c : d = 6
        · exact fact_deep hn (Or.inr ⟨h0, h1⟩) c
        · have hlt := hx.2.2 (sg_in h1).1
          exact fact_brc hn h0 h1 hb (by omega) (ih _ (d + 1) hlt hx.2.1 hnx (by omega)).2.2
      | false => exact fact_cmp hn h0 h1 hb hd
  have hB : BothOK D n b d := both_ok hn hd hb hnb fun b1 k1 k2 k3 => by
    rcases Nat.eq_or_lt_of_le k1 with e | e
    · subst e; exact hF
    · exact (ih b1 d e k2 k3 hd).1
  exact ⟨hF, hB, test_ok hn hd hb hnb fun b1 k1 k2 k3 => by
    rcases Nat.eq_or_lt_of_le k1 with e | e
    · subst e; exact hB
    · exact (ih b1 d e k2 k3 hd).2.1⟩
theorem q_all (hn : n ≤ 200) : ∀ (m b d : Nat), n - b ≤ m → b ≤ n → NB D n b → d ≤ 6 → FactOK D n b d ∧ BothOK D n b d ∧ TestOK D n b d := by
  intro m
  induction m with
  | zero => exact fun b d h1 h2 h3 h4 => q_st hn h4 h2 h3 fun b1 d1 k1 k2 _ _ => by omega
  | succ m ih => exact fun b d h1 h2 h3 h4 => q_st hn h4 h2 h3 fun b1 d1 k1 k2 k3 k4 => ih b1 d1 (by omega) k2 k3 k4
theorem test_at (hn : n ≤ 200) (hb : b ≤ n) (hnb : NB D n b) : TestOK D n b 0 := (q_all hn (n - b) b 0 (Nat.le_refl _) hb hnb (by omega)).2.2
end QST
