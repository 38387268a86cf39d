/-! all lines of a text, both sides -/
section LALL
set_option maxRecDepth 100000
variable {z y a c lo hi v N x : Int} {M M' M0 M1 M2 : Mem} {X : PX} {n m i p t b b' d k ne f e f' e' : Nat} {D : Nat → Int} {P Q : PS} {R R' : Int → Int} {cs cs' : List Int}
theorem PlC.fr (h : PlC M R) (hf : ∀ b, 5 ≤ b → b < 30 → M' b = M b) : PlC M' R := by
  refine ⟨?_, fun q hq j hj => ?_⟩
  · rw [hf 5 (by omega) (by omega)]; exact h.1
  · have ha : 7 ≤ q.1 ∧ q.1 ≤ 29 := (by decide : ∀ q ∈ plT, 7 ≤ q.1 ∧ q.1 ≤ 29) q hq
    rw [hf q.1 (by omega) (by omega)]; exact h.2 q hq j hj
theorem RVw.fr (h : RVw M R) (hf : M' 821 = M 821) : RVw M' R := fun z hz => by rw [hf]; exact h z hz
theorem TxR.fr (h : TxR M D R f e) (hf : M' 821 = M 821) : TxR M' D R f e := fun h1 i i1 i2 => by rw [hf]; exact h h1 i i1 i2
theorem iF_sg (h : iF (signS D n c P)) : iF P := by
  cases P with
  | inl b => exact ⟨b, rfl⟩
  | inr q => exact niF h
def AllO (D : Nat → Int) (n b : Nat) (R : Int → Int) (cs : List Int) (f e : Nat) (Q : PS) (R' : Int → Int) (cs' : List Int) (f' e' : Nat) : Prop :=
  (∀ (M : Mem) (X : PX) (x2 : Int32) (k : Nat), k + 1 ≤ b → CTP M D n (.inl b) → PlC M R → FV M 30 cs [] → ∃ M', ev true 276 0 40 [pR 3 4, pR 2 1, pI x2, pI (ii k)] [] M X = some (.inl none, M', X) ∧ CTP M' D n Q ∧ FrU M M' ∧ (iF Q → PlC M' R' ∧ FV M' 30 cs' [])) ∧
  (∀ (M : Mem) (X : PX) (x1 : Int32) (z2 : PV), RTP M D n (.inl b) → RVw M R → M 819 26 = ii 0 → TxR M D R f e → ∃ M', ev true 306 0 74 [pR 13 819, pI x1, z2] [] M X = ev true 306 0 95 [pR 13 819, pI x1, z2] [] M' X ∧ RTP M' D n Q ∧ FrV M M' ∧ (iF Q → RVw M' R' ∧ TxR M' D R' f' e')) ∧
  (iF Q → RdI R' ∧ LwP D n R' cs' f' e')
theorem C_endq {x2 : Int32} {k : Nat} {q : Int × Nat} (h : CTP M D n (.inr q)) (hk : k ≤ 500) : ev true 276 0 40 [pR 3 4, pR 2 1, pI x2, pI (ii k)] [] M X = some (.inl none, M, X) := by
  rw [q276_40, i_500, ilt (by omega)]
  by_cases c : (k : Int) < 500
  · rw [if_pos c, S6 h, kb1, q276_51, i_0, bIT]
    show (bif false then _ else _) = _
    rw [cond_false, q276_164]
  · rw [if_neg c, q276_164]
theorem all_lines : ∀ (m b : Nat) (R : Int → Int) (cs : List Int) (f e : Nat), n - b ≤ m → b ≤ n → NB D n b → RdI R → LwP D n R cs f e → ∃ Q R' cs' f' e', AllO D n b R cs f e Q R' cs' f' e' := by
  intro m
  induction m with
  | zero =>
    intro b R cs f e h1 h2 h3 h4 h5
    have hk : tK D n b = 0 := by unfold tK; rw [if_neg (by omega)]
    refine ⟨.inl b, R, cs, f, e, fun M X x2 k a1 a2 a3 a4 => ⟨M, ?_, a2, FrU.rf, fun _ => ⟨a3, a4⟩⟩, fun M X x1 z2 a1 a2 a3 a4 => ⟨M, ?_, a1, FrV.rf, fun _ => ⟨a2, a4⟩⟩, fun _ => ⟨h4, h5⟩⟩
    · have h500 := a2.1.1
      rw [q276_40, i_500, ltT (by omega), S6 a2, kb1, q276_51, i_0, bIT]
      show (bif true then _ else _) = _
      rw [cond_true, S7k a2.2.1, kb1, q276_58, i_0, bIT, decide_eq_true hk, cond_true, q276_164]
    · have e23 := a1.2.2.2.2.2.2
      have e20 := a1.2.2.2.2.2.1
      rw [q306_74, e23, i_0, eqT rfl, e20, hk, eqT rfl]
  | succ m ih =>
    intro b R cs f e h1 h2 h3 h4 h5
    by_cases hb : b < n
    · have hnx := nx_in (D := D) h2
      have hki := tk_in (D := D) (n := n) b
      have hk : tK D n b ≠ 0 := by
        unfold tK
        rw [if_pos hb]
        have := kd_in (D b)
        omega
      obtain ⟨Q1, R1, cs1, f1, e1, m1, m2, m3, m4⟩ := mid_ok (D := D) (n := n) h2 h3 (hnx.2.2 hb) h4 h5
      have cpre : ∀ (M : Mem) (X : PX) (x2 : Int32) (k : Nat), k + 1 ≤ b → CTP M D n (.inl b) → PlC M R → FV M 30 cs [] → ∃ M', ev true 276 0 40 [pR 3 4, pR 2 1, pI x2, pI (ii k)] [] M X = ev true 276 0 40 [pR 3 4, pR 2 1, pI x2, pI (ii (k + 1 : Nat))] [] M' X ∧ CTP M' D n (signS D n 59 Q1) ∧ FrU M M' ∧ (iF Q1 → PlC M' R1 ∧ FV M' 30 cs1 []) := by
        intro M X x2 k a1 a2 a3 a4
        have h500 := a2.1.1
        obtain ⟨M1, b1, b2, b3, b4⟩ := m1 M X x2 (ii k) a2 a3 a4
        obtain ⟨M2, c1, c2, c3⟩ := S202 (X := X) (c := 59) b2 (by omega)
        refine ⟨M2, ?_, c2, b3.tr c3.U, fun w => ⟨(b4 w).1.fr fun b q1 q2 => c3.1 b (by omega), (b4 w).2.C c3⟩⟩
        rw [q276_40, i_500, ltT (by omega), S6 a2, kb1, q276_51, i_0, bIT]
        show (bif true then _ else _) = _
        rw [cond_true, S7k a2.2.1, kb1, decide_eq_false hk]
        show ev true 276 0 58 [pR 3 4, pR 2 1, pI x2, pI (ii k)] [pI (ii 0)] M X = _
        rw [b1, q276_152, i_59, c1, kb0, q276_158, i_1, ii_add]
        rfl
      have rpre : ∀ (M : Mem) (X : PX) (x1 : Int32) (z2 : PV), RTP M D n (.inl b) → RVw M R → M 819 26 = ii 0 → TxR M D R f e → ∃ M', ev true 306 0 74 [pR 13 819, pI x1, z2] [] M X = ev true 306 0 74 [pR 13 819, pI x1, z2] [] M' X ∧ RTP M' D n (signS D n 59 Q1) ∧ FrV M M' ∧ (iF Q1 → RVw M' R1 ∧ TxR M' D R1 f1 e1) := by
        intro M X x1 z2 a1 a2 a3 a4
        obtain ⟨M1, b1, b2, b3, b4⟩ := m2 M X a1 a2 a3 a4
        obtain ⟨M2, c1, c2, c3⟩ := S219 (X := X) (c := 59) b2 (by omega)
        refine ⟨M2, ?_, c2, b3.tr c3.V, fun w => ⟨(b4 w).1.fr (c3.1 821 (by decide)), (b4 w).2.fr (c3.1 821 (by decide))⟩⟩
        have e23 := a1.2.2.2.2.2.2
        have e20 := a1.2.2.2.2.2.1
        rw [q306_74, e23, i_0, eqT rfl, e20, eqF (by omega), b1, q298_90, i_59, c1, kb0, q298_96, kb0, q306_92]
      cases hP : signS D n 59 Q1 with
      | inr q =>
        rw [hP] at cpre rpre
        refine ⟨.inr q, R1, cs1, f1, e1, fun M X x2 k a1 a2 a3 a4 => ?_, fun M X x1 z2 a1 a2 a3 a4 => ?_, fun w => niF w⟩
        · have h500 := a2.1.1
          obtain ⟨M1, b1, b2, b3, b4⟩ := cpre M X x2 k a1 a2 a3 a4
          exact ⟨M1, by rw [b1, C_endq b2 (by omega)], b2, b3, fun w => niF w⟩
        · obtain ⟨M1, b1, b2, b3, b4⟩ := rpre M X x1 z2 a1 a2 a3 a4
          obtain ⟨g, p⟩ := q
          have g1 := b2.2.1
          have g2 := b2.2.2.1
          refine ⟨M1, ?_, b2, b3, fun w => niF w⟩
          rw [b1, q306_74, g1, i_0, eqF (by omega)]
      | inl b2 =>
        rw [hP] at cpre rpre
        have hQ : iF Q1 := iF_sg (by rw [hP]; exact ⟨b2, rfl⟩)
        obtain ⟨s1, s2, s3⟩ := le_sg m4 hP
        obtain ⟨r1, r2⟩ := m3 hQ
        obtain ⟨Q, R', cs', f', e', k1, k2, k3⟩ := ih b2 R1 cs1 f1 e1 (by omega) s2 s3 r1 r2
        refine ⟨Q, R', cs', f', e', fun M X x2 k a1 a2 a3 a4 => ?_, fun M X x1 z2 a1 a2 a3 a4 => ?_, k3⟩
        · obtain ⟨M1, b1, b2, b3, b4⟩ := cpre M X x2 k a1 a2 a3 a4
          obtain ⟨M2, c1, c2, c3, c4⟩ := k1 M1 X x2 (k + 1) (by omega) b2 (b4 hQ).1 (b4 hQ).2
          exact ⟨M2, b1.trans c1, c2, b3.tr c3, c4⟩
        · obtain ⟨M1, b1, b2, b3, b4⟩ := rpre M X x1 z2 a1 a2 a3 a4
          obtain ⟨M2, c1, c2, c3, c4⟩ := k2 M1 X x1 z2 b2 (b4 hQ).1 (by rw [b3.2 26 (by omega)]; exact a3) (b4 hQ).2
          exact ⟨M2, b1.trans c1, c2, b3.tr c3, c4⟩
    · have hk : tK D n b = 0 := by unfold tK; rw [if_neg (by omega)]
      refine ⟨.inl b, R, cs, f, e, fun M X x2 k a1 a2 a3 a4 => ⟨M, ?_, a2, FrU.rf, fun _ => ⟨a3, a4⟩⟩, fun M X x1 z2 a1 a2 a3 a4 => ⟨M, ?_, a1, FrV.rf, fun _ => ⟨a2, a4⟩⟩, fun _ => ⟨h4, h5⟩⟩
      · have h500 := a2.1.1
        rw [q276_40, i_500, ltT (by omega), S6 a2, kb1, q276_51, i_0, bIT]
        show (bif true then _ else _) = _
        rw [cond_true, S7k a2.2.1, kb1, q276_58, i_0, bIT, decide_eq_true hk, cond_true, q276_164]
      · have e23 := a1.2.2.2.2.2.2
        have e20 := a1.2.2.2.2.2.1
        rw [q306_74, e23, i_0, eqT rfl, e20, hk, eqT rfl]
/-- an empty row -/
def nuR (v : Int) : Int → Int := fun z => if z = 0 then v else if 174 ≤ z ∧ z < 414 then -1 else 0
theorem nuR_I (h : 4 ≤ v ∧ v ≤ 40) : RdI (nuR v) := by
  have e0 : nuR v 0 = v := rfl
  have ez : ∀ z, z ≠ 0 → (z < 174 ∨ 414 ≤ z) → nuR v z = 0 := fun z z1 z2 => by unfold nuR; rw [if_neg z1, if_neg (by omega)]
  have e1 := ez 1 (by omega) (by omega)
  have e2 := ez 2 (by omega) (by omega)
  have e3 := ez 3 (by omega) (by omega)
  have e4 := ez 4 (by omega) (by omega)
  have e9 := ez 9 (by omega) (by omega)
  refine ⟨by omega, fun e he => by omega, fun e he => by omega, fun e he => by omega, fun e he => by omega, fun k k1 k2 => ez k (by omega) (by omega), fun e he => ⟨ez _ (by omega) (by omega), ez _ (by omega) (by omega)⟩, fun w hw => ez _ (by omega) (by omega), fun s hs k k1 k2 => ez _ (by omega) (by omega), fun z z1 z2 => ?_⟩
  unfold nuR
  rw [if_neg (by omega), if_pos ⟨z1, z2⟩]
theorem S21a {w : Int32} {z3 : PV} : ∀ (m k : Nat) (M : Mem), k + m = 1434 → (∀ b, b ≠ 821 → M b = M0 b) → (∀ j, j < k → M 821 j = ii 0) → ∃ M' z2, ev true 21 0 2 [pR 14 821, pI w, pI (ii k), z3] [] M X = ev true 21 0 25 [pR 14 821, pI w, pI (ii 0), z3] [] M' X ∧ (∀ b, b ≠ 821 → M' b = M0 b) ∧ (z2 : Nat) = 0 ∧ ∀ j, j < 1434 → M' 821 j = if j = 0 then w else ii 0 := by
  intro m
  induction m with
  | zero =>
    intro k M h1 h2 h3
    refine ⟨upM M 821 0 w, 0, ?_, fun b hb => by rw [← h2 b hb]; funext y; exact up_n hb, rfl, fun j hj => ?_⟩
    · rw [q21_2, i_1434, ltF (by omega), i_0, inQ (by omega)]
    · rw [up_s]
      by_cases c : j = 0
      · rw [if_pos c, if_pos c]
      · rw [if_neg c, if_neg c]; exact h3 j (by omega)
  | succ m ih =>
    intro k M h1 h2 h3
    obtain ⟨M', z2, a1, a2, a3, a4⟩ := ih (k + 1) (upM M 821 k (ii 0)) (by omega) (fun b hb => by rw [← h2 b hb]; funext y; exact up_n hb) (fun j hj => by
      rw [up_s]
      by_cases c : j = k
      · rw [if_pos c]
      · rw [if_neg c]; exact h3 j (by omega))
    refine ⟨M', z2, ?_, a2, a3, a4⟩
    rw [q21_2, i_1434, ltT (by omega), inQ (by omega), ii_nat (by omega) (by omega), show ((k : Int)).toNat = k by omega, i_0, i_1, ii_add]
    exact a1
theorem S21b {w : Int32} {q : Nat} (hq : q < 40) : ∀ (m k : Nat) (M : Mem), k + m = 6 → (∀ b, b ≠ 821 → M b = M0 b) → (∀ j : Nat, M 821 j = if 174 + 6 * q ≤ j ∧ j < 174 + 6 * q + k then ii (-1) else M0 821 j) → ∃ M' z3, ev true 21 0 33 [pR 14 821, pI w, pI (ii q), pI (ii k)] [] M X = ev true 21 0 25 [pR 14 821, pI w, pI (ii (q + 1 : Nat)), z3] [] M' X ∧ (∀ b, b ≠ 821 → M' b = M0 b) ∧ ∀ j : Nat, M' 821 j = if 174 + 6 * q ≤ j ∧ j < 174 + 6 * q + 6 then ii (-1) else M0 821 j := by
  intro m
  induction m with
  | zero =>
    intro k M h1 h2 h3
    have hk : k = 6 := by omega
    subst hk
    refine ⟨M, pI (ii (6 : Nat)), ?_, h2, h3⟩
    rw [q21_33, i_6, ltF (by omega), i_1, ii_add]
    rfl
  | succ m ih =>
    intro k M h1 h2 h3
    obtain ⟨M', z3, a1, a2, a3⟩ := ih (k + 1) (upM M 821 (174 + 6 * q + k) (ii (-1))) (by omega) (fun b hb => by rw [← h2 b hb]; funext y; exact up_n hb) (fun j => by
      rw [up_s, h3 j]
      by_cases c : j = 174 + 6 * q + k
      · rw [if_pos c, if_pos (by omega)]
      · rw [if_neg c]
        by_cases d : 174 + 6 * q ≤ j ∧ j < 174 + 6 * q + k
        · rw [if_pos d, if_pos (by omega)]
        · rw [if_neg d, if_neg (by omega)])
    refine ⟨M', z3, ?_, a2, a3⟩
    rw [q21_33, i_6, ltT (by omega), i_174, ii_mul, ii_add, ii_add, inQ (by omega), ii_nat (by omega) (by omega), show (174 + 6 * (q : Int) + (k : Int)).toNat = 174 + 6 * q + k by omega, ii_m1, i_1, ii_add]
    exact a1
theorem S21c {w : Int32} : ∀ (m q : Nat) (z3 : PV) (M : Mem), q + m = 40 → (∀ b, b ≠ 821 → M b = M0 b) → (∀ j : Nat, M 821 j = if 174 ≤ j ∧ j < 174 + 6 * q then ii (-1) else M0 821 j) → ∃ M', ev true 21 0 25 [pR 14 821, pI w, pI (ii q), z3] [] M X = some (.inl none, M', X) ∧ (∀ b, b ≠ 821 → M' b = M0 b) ∧ ∀ j : Nat, M' 821 j = if 174 ≤ j ∧ j < 414 then ii (-1) else M0 821 j := by
  intro m
  induction m with
  | zero =>
    intro q z3 M h1 h2 h3
    have hq : q = 40 := by omega
    subst hq
    exact ⟨M, by rw [q21_25, i_40, ltF (by omega)], h2, h3⟩
  | succ m ih =>
    intro q z3 M h1 h2 h3
    obtain ⟨M1, z4, a1, a2, a3⟩ := S21b (X := X) (M0 := M) (w := w) (q := q) (by omega) 6 0 M (by omega) (fun _ _ => rfl) (fun j => by rw [if_neg (by omega)])
    obtain ⟨M', b1, b2, b3⟩ := ih (q + 1) z4 M1 (by omega) (fun b hb => (a2 b hb).trans (h2 b hb)) (fun j => by
      rw [a3 j, h3 j]
      by_cases c : 174 + 6 * q ≤ j ∧ j < 174 + 6 * q + 6
      · rw [if_pos c, if_pos (by omega)]
      · rw [if_neg c]
        by_cases d : 174 ≤ j ∧ j < 174 + 6 * q
        · rw [if_pos d, if_pos (by omega)]
        · rw [if_neg d, if_neg (by omega)])
    refine ⟨M', ?_, b2, b3⟩
    have a1 : ev true 21 0 33 [pR 14 821, pI w, pI (ii q), pI (ii 0)] [] M X = _ := a1
    rw [q21_25, i_40, ltT (by omega), i_0, a1]
    exact b1
theorem S21 : ∃ M', ev true 21 0 0 [pR 14 821, pI (ii v), p0, p0] [] M X = some (.inl none, M', X) ∧ (∀ b, b ≠ 821 → M' b = M b) ∧ ∀ z : Nat, z < 1434 → M' 821 z = ii (nuR v z) := by
  obtain ⟨M1, z2, a1, a2, -, a4⟩ := S21a (M0 := M) (X := X) (w := ii v) (z3 := p0) 1434 0 M (by omega) (fun _ _ => rfl) (fun j hj => by omega)
  obtain ⟨M2, b1, b2, b3⟩ := S21c (M0 := M1) (X := X) (w := ii v) 40 0 p0 M1 (by omega) (fun _ _ => rfl) (fun j => by rw [if_neg (by omega)])
  refine ⟨M2, ?_, fun b hb => (b2 b hb).trans (a2 b hb), fun z hz => ?_⟩
  · have a1 : ev true 21 0 2 [pR 14 821, pI (ii v), pI (ii 0), p0] [] M X = _ := a1
    have b1 : ev true 21 0 25 [pR 14 821, pI (ii v), pI (ii 0), p0] [] M1 X = _ := b1
    rw [q21_0, i_0, a1, b1]
  · rw [b3 z, a4 z hz]
    unfold nuR
    by_cases c : z = 0
    · subst c
      rw [if_neg (by omega), if_pos rfl]
      rfl
    · rw [if_neg (show ¬ (z : Int) = 0 by omega), if_neg c]
      by_cases d : 174 ≤ z ∧ z < 414
      · rw [if_pos d, if_pos (by omega)]
      · rw [if_neg d, if_neg (by omega)]
theorem wrd_le (h : b' ≤ n) (e : wrdS D n t (.inl b') = .inl b) : b' < b ∧ b ≤ n := by
  have e : (bif wdB D n b' t then (.inl (nxD D n b') : PS) else .inr (1, b')) = .inl b := e
  cases hw : wdB D n b' t with
  | false => rw [hw] at e; cases e
  | true =>
    rw [hw] at e
    cases e
    have h1 := (wdB_t.1 hw).1
    have h2 := tk_lt (D := D) (n := n) (b := b') (by omega)
    have := nx_in (D := D) h
    omega
end LALL
