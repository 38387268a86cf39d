/-! one line, both sides -/
section LLOK
set_option maxRecDepth 100000
variable {z y a c lo hi v N x : Int} {M M' M0 M1 M2 : Mem} {X : PX} {n m i p t b b' d k ne f e f' e' : Nat} {D : Nat → Int} {P Q : PS} {R R' : Int → Int} {cs cs' : List Int}
def leS (n b : Nat) (P : PS) : Prop := ∀ b', P = .inl b' → b ≤ b' ∧ b' ≤ n
theorem le_in (h : b ≤ n) : leS n b (.inl b) := fun b' e => by cases e; exact ⟨Nat.le_refl _, h⟩
theorem le_inr {q : Int × Nat} : leS n b (.inr q) := fun b' e => by cases e
theorem le_nx (h : leS n b P) : leS n b (nextS D n P) := by
  cases P with
  | inr q => exact le_inr
  | inl b1 =>
    obtain ⟨h1, h2⟩ := h b1 rfl
    have := nx_in (D := D) h2
    intro b' e
    cases e
    exact ⟨by omega, this.2.1⟩
theorem le_fl (P : PS) : leS n b (failS c P) := by
  cases P with
  | inr q => exact le_inr
  | inl b1 => exact le_inr
theorem le_num (h : leS n b P) : leS n b (numS D n lo hi P) := by
  cases P with
  | inr q => exact le_inr
  | inl b1 =>
    have hn := le_nx (D := D) h
    rw [numS_l]
    by_cases c : tK D n b1 = 2
    · rw [if_pos c]
      by_cases c2 : nuV D n b1 < lo ∨ hi < nuV D n b1
      · rw [if_pos c2]; exact le_inr
      · rw [if_neg c2]; exact hn
    · rw [if_neg c]; exact le_inr
theorem le_own {us : Int → Bool} (h : leS n b P) : leS n b (ownS D n N us P) := by
  cases P with
  | inr q => exact le_inr
  | inl b1 =>
    have hn := le_nx (D := D) h
    rw [ownS_l]
    by_cases c : tK D n b1 = 2
    · rw [if_pos c]
      by_cases c1 : us (nuV D n b1) = true
      · rw [if_pos c1]; exact le_inr
      · rw [if_neg c1]
        by_cases c2 : nuV D n b1 < 0 ∨ N - 1 < nuV D n b1
        · rw [if_pos c2]; exact le_inr
        · rw [if_neg c2]; exact hn
    · rw [if_neg c]; exact le_inr
theorem le_one {F : Prop} [Decidable F] (h : leS n b P) : leS n b (oneS D n F P) := by
  unfold oneS
  by_cases c : F
  · rw [if_pos c]; exact le_nx (le_fl P)
  · rw [if_neg c]; exact le_nx h
theorem le_ur (h : leS n b P) : leS n b (urS D n P) := by
  cases P with
  | inr q => exact le_inr
  | inl b1 =>
    show leS n b (bif wdB D n b1 19 then .inl (nxD D n b1) else .inl b1)
    cases wdB D n b1 19
    · exact h
    · exact le_nx (D := D) h
theorem le_sg (h : leS n b P) (e : signS D n c P = .inl b') : b < b' ∧ b' ≤ n ∧ NB D n b' := by
  cases P with
  | inr q => cases e
  | inl b1 =>
    obtain ⟨h1, h2⟩ := h b1 rfl
    have e : (bif sgB D n b1 c then (.inl (nxD D n b1) : PS) else .inr (1, b1)) = .inl b' := e
    cases hs : sgB D n b1 c with
    | false => rw [hs] at e; cases e
    | true =>
      rw [hs] at e
      cases e
      obtain ⟨s1, s2, s3, s4, s5, s6, s7⟩ := sg_in hs
      exact ⟨by omega, s6, s7⟩
def TxR (M : Mem) (D : Nat → Int) (R : Int → Int) (f e : Nat) : Prop := R 9 = 1 → ∀ i, f ≤ i → i < e → M 821 (934 + (i - f)) = ii (D i)
def LwP (D : Nat → Int) (n : Nat) (R : Int → Int) (cs : List Int) (f e : Nat) : Prop := (R 9 = 0 ∧ R 10 = 0 ∧ cs = []) ∨ (R 9 = 1 ∧ R 10 = (e : Int) - f ∧ LawT D n f e cs)
theorem LwP.cp (h : LwP D n R cs f e) (h9 : R' 9 = R 9) (h10 : R' 10 = R 10) : LwP D n R' cs f e := by
  unfold LwP
  rw [h9, h10]
  exact h
theorem TxR.cp (h : TxR M D R f e) (h9 : R' 9 = R 9) (hm : ∀ z : Nat, 934 ≤ z → M' 821 z = M 821 z) : TxR M' D R' f e := fun h1 i i1 i2 => by
  rw [hm _ (by omega)]
  exact h (by rw [← h9]; exact h1) i i1 i2
def MidO (D : Nat → Int) (n b : Nat) (R : Int → Int) (cs : List Int) (f e : Nat) (Q : PS) (R' : Int → Int) (cs' : List Int) (f' e' : Nat) : Prop :=
  (∀ (M : Mem) (X : PX) (x2 x3 : Int32), CTP M D n (.inl b) → PlC M R → FV M 30 cs [] → ∃ M', ev true 276 0 58 [pR 3 4, pR 2 1, pI x2, pI x3] [pI (ii 0)] M X = ev true 276 0 152 [pR 3 4, pR 2 1, pI x2, pI x3] [] M' X ∧ CTP M' D n Q ∧ FrU M M' ∧ (iF Q → PlC M' R' ∧ FV M' 30 cs' [])) ∧
  (∀ (M : Mem) (X : PX), RTP M D n (.inl b) → RVw M R → M 819 26 = ii 0 → TxR M D R f e → ∃ M', ev true 298 0 0 [pR 13 819] [] M X = ev true 298 0 90 [pR 13 819] [] M' X ∧ RTP M' D n Q ∧ FrV M M' ∧ (iF Q → RVw M' R' ∧ TxR M' D R' f' e')) ∧
  (iF Q → RdI R' ∧ LwP D n R' cs' f' e') ∧ leS n b Q
theorem FV.L (h : FV M 30 cs []) (hf : FrL M M') : FV M' 30 cs [] := h.at (hf.1 30 (by decide) (by decide)) (hf.1 34 (by decide) (by decide)) (hf.1 38 (by decide) (by decide))
theorem natOf (h : 0 ≤ z) : ∃ k : Nat, z = k := ⟨z.toNat, by omega⟩
theorem mid_ok (hb : b ≤ n) (hnb : NB D n b) (hbn : b < nxD D n b) (hi : RdI R) (hl : LwP D n R cs f e) : ∃ Q R' cs' f' e', MidO D n b R cs f e Q R' cs' f' e' := by
  have g := hi.1
  have le0 : leS n b (.inl b) := le_in hb
  cases w1 : wdB D n b 4 with
  | true =>
    obtain ⟨k, hk⟩ := natOf (z := R 1) (by omega)
    refine ⟨xP3 D n b k R, xRo D n b k R, cs, f, e, fun M X x2 x3 h1 h2 h3 => ?_, fun M X h1 h2 h3 h4 => ?_, fun w => ⟨xI hi hk w, hl.cp (blk_o (by omega) (by omega)) (blk_o (by omega) (by omega))⟩, le_num (le_own (le_one le0))⟩
    · obtain ⟨M', a1, a2, a3, a4⟩ := S231 (X := X) h1 h2 hi hk
      exact ⟨M', by rw [q276_58, i_0, eqT rfl, S230k h1.1 h1.2.1, kb1, q276_67, i_0, bIT, w1, cond_true, a1, kb0, q276_75], a2, a3.U, fun w => ⟨a4 w, h3.L a3⟩⟩
    · obtain ⟨M', a1, a2, a3, a4⟩ := S239 (X := X) h1 h2 hi hk
      exact ⟨M', by rw [q298_0, S238 h1, kb1, q298_7, i_0, bIT, wdR_l, w1, cond_true, a1, kb0, q298_14], a2, a3, fun w => ⟨(a4 w).1, h4.cp (blk_o (by omega) (by omega)) (a4 w).2⟩⟩
  | false =>
  cases w2 : wdB D n b 21 with
  | true =>
    obtain ⟨k, hk⟩ := natOf (z := R 2) (by omega)
    refine ⟨waP3 D n b k R, waRo D n b k R, cs, f, e, fun M X x2 x3 h1 h2 h3 => ?_, fun M X h1 h2 h3 h4 => ?_, fun w => ⟨waI hi hk w, hl.cp (blk_o (by omega) (by omega)) (blk_o (by omega) (by omega))⟩, le_ur (le_num (le_one le0))⟩
    · obtain ⟨M', a1, a2, a3, a4⟩ := S264 (X := X) h1 h2 hi hk
      exact ⟨M', by rw [q276_58, i_0, eqT rfl, S230k h1.1 h1.2.1, kb1, q276_67, i_0, bIT, w1, cond_false, S230k h1.1 h1.2.1, kb1, q276_84, i_0, bIT, w2, cond_true, a1, kb0, q276_92], a2, a3.U, fun w => ⟨a4 w, h3.L a3⟩⟩
    · obtain ⟨M', a1, a2, a3, a4⟩ := S253 (X := X) h1 h2 hi hk
      exact ⟨M', by rw [q298_0, S238 h1, kb1, q298_7, i_0, bIT, wdR_l, w1, cond_false, S238 h1, kb1, q298_24, i_0, bIT, wdR_l, w2, cond_true, a1, kb0, q298_31], a2, a3, fun w => ⟨(a4 w).1, h4.cp (blk_o (by omega) (by omega)) (a4 w).2⟩⟩
  | false =>
  cases w3 : wdB D n b 17 with
  | true =>
    obtain ⟨k, hk⟩ := natOf (z := R 3) (by omega)
    refine ⟨sP5 D n b k R, sRo D n b k R, cs, f, e, fun M X x2 x3 h1 h2 h3 => ?_, fun M X h1 h2 h3 h4 => ?_, fun w => ⟨sI hi hk w, hl.cp (blk_o (by omega) (by omega)) (blk_o (by omega) (by omega))⟩, le_num (le_num (le_num (le_own (le_one le0))))⟩
    · obtain ⟨M', a1, a2, a3, a4⟩ := S232 (X := X) h1 h2 hi hk
      exact ⟨M', by rw [q276_58, i_0, eqT rfl, S230k h1.1 h1.2.1, kb1, q276_67, i_0, bIT, w1, cond_false, S230k h1.1 h1.2.1, kb1, q276_84, i_0, bIT, w2, cond_false, S230k h1.1 h1.2.1, kb1, q276_101, i_0, bIT, w3, cond_true, a1, kb0, q276_109], a2, a3.U, fun w => ⟨a4 w, h3.L a3⟩⟩
    · obtain ⟨M', a1, a2, a3, a4⟩ := S240 (X := X) h1 h2 hi hk
      exact ⟨M', by rw [q298_0, S238 h1, kb1, q298_7, i_0, bIT, wdR_l, w1, cond_false, S238 h1, kb1, q298_24, i_0, bIT, wdR_l, w2, cond_false, S238 h1, kb1, q298_41, i_0, bIT, wdR_l, w3, cond_true, a1, kb0, q298_48], a2, a3, fun w => ⟨(a4 w).1, h4.cp (blk_o (by omega) (by omega)) (a4 w).2⟩⟩
  | false =>
  cases w4 : wdB D n b 2 with
  | true =>
    obtain ⟨k, hk⟩ := natOf (z := R 4) (by omega)
    refine ⟨cP5 D n b k R, cRo D n b k R, cs, f, e, fun M X x2 x3 h1 h2 h3 => ?_, fun M X h1 h2 h3 h4 => ?_, fun w => ⟨cI hi hk w, hl.cp (blk_o (by omega) (by omega)) (blk_o (by omega) (by omega))⟩, le_num (le_num (le_num (le_num (le_one le0))))⟩
    · obtain ⟨M', a1, a2, a3, a4⟩ := S205 (X := X) h1 h2 hi hk
      exact ⟨M', by rw [q276_58, i_0, eqT rfl, S230k h1.1 h1.2.1, kb1, q276_67, i_0, bIT, w1, cond_false, S230k h1.1 h1.2.1, kb1, q276_84, i_0, bIT, w2, cond_false, S230k h1.1 h1.2.1, kb1, q276_101, i_0, bIT, w3, cond_false, S230k h1.1 h1.2.1, kb1, q276_118, i_0, bIT, w4, cond_true, a1, kb0, q276_126], a2, a3.U, fun w => ⟨a4 w, h3.L a3⟩⟩
    · obtain ⟨M', a1, a2, a3, a4⟩ := S241 (X := X) h1 h2 hi hk
      exact ⟨M', by rw [q298_0, S238 h1, kb1, q298_7, i_0, bIT, wdR_l, w1, cond_false, S238 h1, kb1, q298_24, i_0, bIT, wdR_l, w2, cond_false, S238 h1, kb1, q298_41, i_0, bIT, wdR_l, w3, cond_false, S238 h1, kb1, q298_58, i_0, bIT, wdR_l, w4, cond_true, a1, kb0, q298_65], a2, a3, fun w => ⟨(a4 w).1, h4.cp (blk_o (by omega) (by omega)) (a4 w).2⟩⟩
  | false =>
  have cpre : ∀ (M : Mem) (X : PX) (x2 x3 : Int32), CTP M D n (.inl b) → ev true 276 0 58 [pR 3 4, pR 2 1, pI x2, pI x3] [pI (ii 0)] M X = ev true 276 0 135 [pR 3 4, pR 2 1, pI x2, pI x3] [pI (bI (wdB D n b 18))] M X := fun M X x2 x3 h1 => by
    rw [q276_58, i_0, eqT rfl, S230k h1.1 h1.2.1, kb1, q276_67, i_0, bIT, w1, cond_false, S230k h1.1 h1.2.1, kb1, q276_84, i_0, bIT, w2, cond_false, S230k h1.1 h1.2.1, kb1, q276_101, i_0, bIT, w3, cond_false, S230k h1.1 h1.2.1, kb1, q276_118, i_0, bIT, w4, cond_false, S230k h1.1 h1.2.1, kb1]
  have rpre : ∀ (M : Mem) (X : PX), RTP M D n (.inl b) → ev true 298 0 0 [pR 13 819] [] M X = ev true 298 0 75 [pR 13 819] [pI (bI (wdB D n b 18))] M X := fun M X h1 => by
    rw [q298_0, S238 h1, kb1, q298_7, i_0, bIT, wdR_l, w1, cond_false, S238 h1, kb1, q298_24, i_0, bIT, wdR_l, w2, cond_false, S238 h1, kb1, q298_41, i_0, bIT, wdR_l, w3, cond_false, S238 h1, kb1, q298_58, i_0, bIT, wdR_l, w4, cond_false, S238 h1, kb1, wdR_l]
  cases w5 : wdB D n b 18 with
  | false =>
    refine ⟨.inr (1, b), R, cs, f, e, fun M X x2 x3 h1 h2 h3 => ?_, fun M X h1 h2 h3 h4 => ?_, fun w => niF w, le_inr⟩
    · obtain ⟨M', a1, a2, a3⟩ := S5 (X := X) h1 (c := 1) (by omega)
      exact ⟨M', by rw [cpre M X x2 x3 h1, w5, q276_135, i_0, bIT, cond_false, i_1, a1, kb1, q276_151], a2, a3.U, fun w => niF w⟩
    · obtain ⟨M', a1, a2, a3⟩ := S46 (X := X) h1 (c := 1) (by omega)
      exact ⟨M', by rw [rpre M X h1, w5, q298_75, i_0, bIT, cond_false, i_1, a1, kb0], a2, a3.V, fun w => niF w⟩
  | true =>
    rcases hl with ⟨l1, l0, l2⟩ | ⟨l1, l2, l3⟩
    · subst l2
      obtain ⟨P', cs', e', t1, t2, t3⟩ := turns_ok (D := D) (n := n) hb hbn
      have hR : ∃ R' : Int → Int, R' 9 = 1 ∧ R' 10 = (e' : Int) - (nxD D n b : Nat) ∧ ∀ z, z ≠ 9 → z ≠ 10 → R' z = R z := ⟨fun z => if z = 9 then 1 else if z = 10 then (e' : Int) - (nxD D n b : Nat) else R z, rfl, rfl, fun z h1 h2 => by show (if z = 9 then _ else if z = 10 then _ else _) = _; rw [if_neg h1, if_neg h2]⟩
      obtain ⟨R', r9, r10, ro⟩ := hR
      refine ⟨P', R', cs', nxD D n b, e', fun M X x2 x3 h1 h2 h3 => ?_, fun M X h1 h2 h3 h4 => ?_, fun w => ⟨RdI_9 hi ro (by omega), Or.inr ⟨r9, r10, (t3 w).2.2⟩⟩, fun b' hb' => ?_⟩
      · obtain ⟨M', a1, a2, a3, a4, a5, a6⟩ := t1 M X h1 (by rw [h2.1.2.2.2.2.2, l1]) h3
        refine ⟨M', by rw [cpre M X x2 x3 h1, w5, q276_135, i_0, bIT, cond_true, a1, kb0, q276_143], a2, a3, fun w => ⟨⟨⟨?_, ?_, ?_, ?_, ?_, ?_⟩, fun q hq j hj => ?_⟩, (a6 w).2⟩⟩
        · rw [a5 0 (by decide), ro 0 (by omega) (by omega)]; exact h2.1.1
        · rw [a5 1 (by decide), ro 1 (by omega) (by omega)]; exact h2.1.2.1
        · rw [a5 4 (by decide), ro 2 (by omega) (by omega)]; exact h2.1.2.2.1
        · rw [a5 7 (by decide), ro 3 (by omega) (by omega)]; exact h2.1.2.2.2.1
        · rw [a5 12 (by decide), ro 4 (by omega) (by omega)]; exact h2.1.2.2.2.2.1
        · rw [(a6 w).1, r9]
        · have hk := plT_k q hq
          have ha : 7 ≤ q.1 ∧ q.1 ≤ 29 ∧ 12 ≤ q.2.2.1 ∧ 0 ≤ q.2.2.2 := (by decide : ∀ q ∈ plT, 7 ≤ q.1 ∧ q.1 ≤ 29 ∧ 12 ≤ q.2.2.1 ∧ 0 ≤ q.2.2.2) q hq
          have hm : 0 ≤ q.2.2.2 * (j : Int) := Int.mul_nonneg ha.2.2.2 (by omega)
          rw [ro _ (by omega) (by omega)] at hj
          rw [ro _ (by omega) (by omega), a4 q.1 (by omega) (by omega) (by omega) (by omega) (by omega)]
          exact h2.2 q hq j hj
      · obtain ⟨M', a1, a2, a3, a4⟩ := t2 M X h1 h3 (by rw [← l1]; exact h2 9 (by decide))
        refine ⟨M', by rw [rpre M X h1, w5, q298_75, i_0, bIT, cond_true, a1, kb0, q298_82], a2, a3, fun w => ⟨fun z hz => ?_, fun _ i i1 i2 => (a4 w).2.2.1 i i1 i2⟩⟩
        obtain ⟨c1, c2, c3, c4⟩ := a4 w
        by_cases k9 : z = 9
        · subst k9; rw [c1]; show ii 1 = ii (R' 9); rw [r9]
        · by_cases k10 : z = 10
          · subst k10; rw [c2]; show _ = ii (R' 10); rw [r10]
          · rw [c4 z hz k9 k10, ro _ (by omega) (by omega)]; exact h2 z hz
      · have := t3 ⟨b', hb'⟩
        rw [this.1] at hb'
        cases hb'
        have h5 := this.2.2.1
        have h6 := this.2.2.2.1
        omega
    · refine ⟨.inr (5, b), R, cs, f, e, fun M X x2 x3 h1 h2 h3 => ?_, fun M X h1 h2 h3 h4 => ?_, fun w => niF w, le_inr⟩
      · obtain ⟨M', a1, a2, a3⟩ := S5 (X := X) h1 (c := 5) (by omega)
        exact ⟨M', by rw [cpre M X x2 x3 h1, w5, q276_135, i_0, bIT, cond_true, q274_0, h2.1.2.2.2.2.2, l1, i_0, eqF (by omega), i_5, a1, kb1, q274_15, kb0, q276_143], a2, a3.U, fun w => niF w⟩
      · obtain ⟨M1, a1, a2, a3⟩ := S46 (X := X) h1 (c := 5) (by omega)
        have a2 : RTP M1 D n (.inr (5, b)) := a2
        obtain ⟨M2, b1, b2, b3⟩ := S192 (X := X) a2
        have b2 : RTP M2 D n (.inr (5, b)) := b2
        obtain ⟨M3, c1, c2, c3⟩ := R288f (X := X) (lv := 0) b2 (by omega)
        have h9 : M 821 9 = ii 1 := by rw [← l1]; exact h2 9 (by decide)
        have g23 := c2.2.1
        exact ⟨M3, by rw [rpre M X h1, w5, q298_75, i_0, bIT, cond_true, q292_0, i_9, inQ (by omega), h9, i_1, eqT rfl, i_5, a1, kb0, q292_16, b1, kb0, q292_20, c1, kb0, q292_29, g23, i_0, eqF (by omega), kb0, q298_82], c2, (a3.tr (b3.tr c3)).V, fun w => niF w⟩
end LLOK
