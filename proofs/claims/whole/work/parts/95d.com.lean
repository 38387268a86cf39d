/-! the line of a coming -/
section LCOM
set_option maxRecDepth 100000
variable {z y a c lo hi v N x fr st k0 b0 wd v2 v3 : Int} {M M' M0 M1 M2 : Mem} {X : PX} {n m i p t b b' d k ne nw ns nc : Nat} {D : Nat → Int} {P : PS} {R R' : Int → Int} {f : Int → Int}
def cP1 (D : Nat → Int) (n b k : Nat) : PS := oneS D n ((12 : Int) ≤ (k : Int)) (.inl b)
def cP2 (D : Nat → Int) (n b k : Nat) (R : Int → Int) : PS := numS D n (0) (R 3 - 1) (cP1 D n b k)
def cP3 (D : Nat → Int) (n b k : Nat) (R : Int → Int) : PS := numS D n (0) (R 2 - 1) (cP2 D n b k R)
def cP4 (D : Nat → Int) (n b k : Nat) (R : Int → Int) : PS := numS D n (1) (30) (cP3 D n b k R)
def cP5 (D : Nat → Int) (n b k : Nat) (R : Int → Int) : PS := numS D n (0) (999) (cP4 D n b k R)
def cFu (v0 v1 v2 v3 : Int) : Int → Int := fun i => if i = 0 then v0 else if i = 1 then v1 else if i = 2 then v2 else if i = 3 then v3 else 0
def cRo (D : Nat → Int) (n b k : Nat) (R : Int → Int) : Int → Int := blk R 4 k (126 + 4 * k) 4 (cFu (vaS D n (cP1 D n b k)) (vaS D n (cP2 D n b k R)) (vaS D n (cP3 D n b k R)) (vaS D n (cP4 D n b k R)))
theorem plT_4 : ∀ q ∈ plT, q.2.1 = 4 → q = (23, 4, 126, 4) ∨ q = (25, 4, 127, 4) ∨ q = (27, 4, 128, 4) ∨ q = (29, 4, 129, 4) := by decide
theorem plT_o4 : ∀ q ∈ plT, q.2.1 ≠ 4 → 7 ≤ q.1 ∧ q.1 ≤ 29 ∧ q.1 ≠ 23 ∧ q.1 ≠ 25 ∧ q.1 ≠ 27 ∧ q.1 ≠ 29 := by decide
theorem S205 (h : CTP M D n (.inl b)) (hp : PlC M R) (hi : RdI R) (hk : R 4 = k) : ∃ M', ev true 205 0 0 [pR 3 4, pR 2 1, p0] [] M X = some (.inl none, M', X) ∧ CTP M' D n (cP5 D n b k R) ∧ FrL M M' ∧ (iF (cP5 D n b k R) → PlC M' (cRo D n b k R)) := by
  have g := hi.1
  have hc0 : M 5 12 = ii k := by rw [hp.1.2.2.2.2.1, hk]
  have m50 := hp.1.1
  have m51 := hp.1.2.1
  have m54 := hp.1.2.2.1
  have m57 := hp.1.2.2.2.1
  obtain ⟨M1, a1, a2, a3⟩ := S145 (X := X) h (a := k) (c := 12) (by omega) (by omega)
  have a2 : CTP M1 D n (cP1 D n b k) := a2
  obtain ⟨M2, w0, x1, x2, x3, x4, x5, -⟩ := S144 (X := X) a2 (lo := 0) (hi := R 3 - 1) (by omega) (by omega)
  have x2 : CTP M2 D n (cP2 D n b k R) := x2
  obtain ⟨M3, s01, s02, s03⟩ := S11g (X := X) (M := M2) (t := 22) (z := k) (v := ii w0) (by omega)
  obtain ⟨M4, w1, y1, y2, y3, y4, y5, -⟩ := S144 (X := X) (x2.on s02 (by decide)) (lo := 0) (hi := R 2 - 1) (by omega) (by omega)
  have y2 : CTP M4 D n (cP3 D n b k R) := y2
  obtain ⟨M5, s11, s12, s13⟩ := S11g (X := X) (M := M4) (t := 24) (z := k) (v := ii w1) (by omega)
  obtain ⟨M6, w2, u1, u2, u3, u4, u5, -⟩ := S144 (X := X) (y2.on s12 (by decide)) (lo := 1) (hi := 30) (by omega) (by omega)
  have u2 : CTP M6 D n (cP4 D n b k R) := u2
  obtain ⟨M7, s21, s22, s23⟩ := S11g (X := X) (M := M6) (t := 26) (z := k) (v := ii w2) (by omega)
  obtain ⟨M8, w3, r1, r2, r3, r4, r5, -⟩ := S144 (X := X) (u2.on s22 (by decide)) (lo := 0) (hi := 999) (by omega) (by omega)
  have r2 : CTP M8 D n (cP5 D n b k R) := r2
  obtain ⟨M9, s31, s32, s33⟩ := S11g (X := X) (M := M8) (t := 28) (z := k) (v := ii w3) (by omega)
  have f5 : FrL M M9 := a3.L.tr (x3.L.tr ((FrL.on s02 (by decide)).tr (y3.L.tr ((FrL.on s12 (by decide)).tr (u3.L.tr ((FrL.on s22 (by decide)).tr (r3.L.tr (FrL.on s32 (by decide)))))))))
  have fz : ∀ b, b ≠ 1 → b ≠ 23 → b ≠ 25 → b ≠ 27 → b ≠ 29 → M9 b = M b := fun b k1 k23 k25 k27 k29 => by rw [s32 b k29, r3.1 b k1, s22 b k27, u3.1 b k1, s12 b k25, y3.1 b k1, s02 b k23, x3.1 b k1, a3.1 b k1]
  refine ⟨upM M9 5 12 (ii (k + 1)), ?_, CTP.on (M := M9) (a := 5) (r2.on s32 (by decide)) (fun b hb => by funext y; exact up_n hb) (by decide), f5.tr (FrL.on (a := 5) (fun b hb => by funext y; exact up_n hb) (by decide)), fun w => ?_⟩
  · rw [q205_0, hc0, i_12, a1, kb0, q205_15, a3.1 5 (by decide), m57, i_0, i_1, ii_sub, x1, kb1, q205_37, s01, kb0, q205_40, s02 5 (by decide), x3.1 5 (by decide), a3.1 5 (by decide), m54, i_0, i_1, ii_sub, y1, kb1, q205_62, s11, kb0, q205_65, i_1, i_30, u1, kb1, q205_80, s21, kb0, q205_83, i_0, i_999, r1, kb1, q205_99, s31, kb0, q205_102, fz 5 (by decide) (by decide) (by decide) (by decide) (by decide) , hc0, i_1, ii_add]
  · have e4 := w
    have e3 := iF_num e4
    have e2 := iF_num e3
    have e1 := iF_num e2
    have e0 := iF_num e1
    have h6 := (iF_one e0).1
    have hw0 := (x5 e1).1
    have hw1 := (y5 e2).1
    have hw2 := (u5 e3).1
    have hw3 := (r5 e4).1
    have ro : ∀ z : Int, z ≠ 4 → (z < 126 + 4 * k ∨ 126 + 4 * k + 4 ≤ z) → cRo D n b k R z = R z := fun z => blk_o
    have m5 : ∀ j, j ≠ 12 → upM M9 5 12 (ii (k + 1)) 5 j = M 5 j := fun j hj => by rw [up_d hj, fz 5 (by decide) (by decide) (by decide) (by decide) (by decide) ]
    refine PlC_add (k0 := 4) (ne := k) hp hi (fun _ _ _ _ _ _ _ => trivial) ⟨?_, ?_, ?_, ?_, ?_, ?_⟩ (fun q hq hq2 => ?_) hk blk_k (fun q hq j hj => ?_) (fun q hq hq2 => ?_) (fun q hq hq2 j => ?_)
    · rw [m5 0 (by decide), ro 0 (by omega) (by omega)]; exact hp.1.1
    · rw [m5 1 (by decide), ro 1 (by omega) (by omega)]; exact hp.1.2.1
    · rw [m5 4 (by decide), ro 2 (by omega) (by omega)]; exact hp.1.2.2.1
    · rw [m5 7 (by decide), ro 3 (by omega) (by omega)]; exact hp.1.2.2.2.1
    · rw [up_s, if_pos rfl, show cRo D n b k R 4 = k + 1 from blk_k]
    · rw [m5 17 (by decide), ro 9 (by omega) (by omega)]; exact hp.1.2.2.2.2.2
    · have := plT_k q hq
      exact ro _ hq2 (by omega)
    · unfold plT at hq
      simp only [List.mem_cons, List.not_mem_nil, or_false] at hq
      rcases hq with e | e | e | e | e | e | e | e | e | e | e | e <;> subst e <;> (simp only at hj; exact ro _ (by simp only; omega) (by simp only; omega))
    · have := plT_o4 q hq hq2
      rw [← fz q.1 (by omega) (by omega) (by omega) (by omega) (by omega) ]
      funext y
      exact up_n (by omega)
    · rcases plT_4 q hq hq2 with e | e | e | e
      · subst e
        have r1 : cRo D n b k R (126 + 4 * k) = vaS D n (cP1 D n b k) := by
          unfold cRo
          rw [blk_i (by omega) (by omega) (by omega)]
          unfold cFu
          rw [if_pos (by omega)]
        show upM M9 5 12 (ii (k + 1)) 23 j = if j = k then ii (cRo D n b k R (126 + 4 * k)) else M 23 j
        rw [r1, up_n (by decide), s32 23 (by decide), r3.1 23 (by decide), s22 23 (by decide), u3.1 23 (by decide), s12 23 (by decide), y3.1 23 (by decide), s03 (by rw [rlq 22 12 ln22]; omega) j, hw0, x3.1 23 (by decide), a3.1 23 (by decide)]
        by_cases k9 : j = k
        · rw [if_pos k9, if_pos (by omega)]
        · rw [if_neg k9, if_neg (by omega)]
      · subst e
        have r1 : cRo D n b k R (127 + 4 * k) = vaS D n (cP2 D n b k R) := by
          unfold cRo
          rw [blk_i (by omega) (by omega) (by omega)]
          unfold cFu
          rw [if_neg (by omega), if_pos (by omega)]
        show upM M9 5 12 (ii (k + 1)) 25 j = if j = k then ii (cRo D n b k R (127 + 4 * k)) else M 25 j
        rw [r1, up_n (by decide), s32 25 (by decide), r3.1 25 (by decide), s22 25 (by decide), u3.1 25 (by decide), s13 (by rw [rlq 24 12 ln24]; omega) j, hw1, y3.1 25 (by decide), s02 25 (by decide), x3.1 25 (by decide), a3.1 25 (by decide)]
        by_cases k9 : j = k
        · rw [if_pos k9, if_pos (by omega)]
        · rw [if_neg k9, if_neg (by omega)]
      · subst e
        have r1 : cRo D n b k R (128 + 4 * k) = vaS D n (cP3 D n b k R) := by
          unfold cRo
          rw [blk_i (by omega) (by omega) (by omega)]
          unfold cFu
          rw [if_neg (by omega), if_neg (by omega), if_pos (by omega)]
        show upM M9 5 12 (ii (k + 1)) 27 j = if j = k then ii (cRo D n b k R (128 + 4 * k)) else M 27 j
        rw [r1, up_n (by decide), s32 27 (by decide), r3.1 27 (by decide), s23 (by rw [rlq 26 12 ln26]; omega) j, hw2, u3.1 27 (by decide), s12 27 (by decide), y3.1 27 (by decide), s02 27 (by decide), x3.1 27 (by decide), a3.1 27 (by decide)]
        by_cases k9 : j = k
        · rw [if_pos k9, if_pos (by omega)]
        · rw [if_neg k9, if_neg (by omega)]
      · subst e
        have r1 : cRo D n b k R (129 + 4 * k) = vaS D n (cP4 D n b k R) := by
          unfold cRo
          rw [blk_i (by omega) (by omega) (by omega)]
          unfold cFu
          rw [if_neg (by omega), if_neg (by omega), if_neg (by omega), if_pos (by omega)]
        show upM M9 5 12 (ii (k + 1)) 29 j = if j = k then ii (cRo D n b k R (129 + 4 * k)) else M 29 j
        rw [r1, up_n (by decide), s33 (by rw [rlq 28 12 ln28]; omega) j, hw3, r3.1 29 (by decide), s22 29 (by decide), u3.1 29 (by decide), s12 29 (by decide), y3.1 29 (by decide), s02 29 (by decide), x3.1 29 (by decide), a3.1 29 (by decide)]
        by_cases k9 : j = k
        · rw [if_pos k9, if_pos (by omega)]
        · rw [if_neg k9, if_neg (by omega)]
theorem S241 (h : RTP M D n (.inl b)) (hr : RVw M R) (hi : RdI R) (hk : R 4 = k) : ∃ M', ev true 241 0 0 [pR 13 819, p0, p0, p0, p0, p0] [] M X = some (.inl none, M', X) ∧ RTP M' D n (cP5 D n b k R) ∧ FrV M M' ∧ (iF (cP5 D n b k R) → RVw M' (cRo D n b k R) ∧ ∀ z : Nat, 934 ≤ z → M' 821 z = M 821 z) := by
  have g := hi.1
  have bl := hi.2.2.2.2.2
  have h1 : M 821 4 = ii k := by rw [← hk]; exact hr 4 (by decide)
  have t0 : M 821 0 = ii (R 0) := hr 0 (by decide)
  have t1 : M 821 1 = ii (R 1) := hr 1 (by decide)
  have t2 : M 821 2 = ii (R 2) := hr 2 (by decide)
  have t3 : M 821 3 = ii (R 3) := hr 3 (by decide)
  obtain ⟨M1, a1, a2, a3⟩ := one_r (X := X) (F := (12 : Int) ≤ (k : Int)) h
  have pre : ev true 241 0 0 [pR 13 819, p0, p0, p0, p0, p0] [] M X = ev true 241 0 16 [pR 13 819, p0, p0, p0, p0, p0] [] M1 X := by
    rw [q241_0, i_4, inQ (by omega), h1, i_12, ieq (by omega)]
    by_cases c : (12 : Int) ≤ k
    · rw [if_pos c] at a1
      rw [if_pos (by omega), a1, kb0]
    · rw [if_neg c] at a1
      cases a1
      rw [if_neg (by omega)]
  obtain ⟨M2, b1, b2, b3⟩ := S192 (X := X) a2
  have b2 : RTP M2 D n (cP1 D n b k) := b2
  have f2 := a3.tr b3
  have e2 : M2 821 = M 821 := f2.1 821 (by decide)
  obtain ⟨M3, w0, x1, x2, x3, x4, x5⟩ := S218 (X := X) b2 (lo := 0) (hi := R 3 - 1) (by omega) (by omega)
  have x2 : RTP M3 D n (cP2 D n b k R) := x2
  have f3 := f2.tr x3
  have e3 : M3 821 = M 821 := f3.1 821 (by decide)
  obtain ⟨M4, w1, y1, y2, y3, y4, y5⟩ := S218 (X := X) x2 (lo := 0) (hi := R 2 - 1) (by omega) (by omega)
  have y2 : RTP M4 D n (cP3 D n b k R) := y2
  have f4 := f3.tr y3
  have e4 : M4 821 = M 821 := f4.1 821 (by decide)
  obtain ⟨M5, w2, u1, u2, u3, u4, u5⟩ := S218 (X := X) y2 (lo := 1) (hi := 30) (by omega) (by omega)
  have u2 : RTP M5 D n (cP4 D n b k R) := u2
  have f5 := f4.tr u3
  have e5 : M5 821 = M 821 := f5.1 821 (by decide)
  obtain ⟨M6, w3, r1, r2, r3, r4, r5⟩ := S218 (X := X) u2 (lo := 0) (hi := 999) (by omega) (by omega)
  have r2 : RTP M6 D n (cP5 D n b k R) := r2
  have f6 := f5.tr r3
  have e6 : M6 821 = M 821 := f6.1 821 (by decide)
  have run : ev true 241 0 0 [pR 13 819, p0, p0, p0, p0, p0] [] M X = ev true 241 0 64 [pR 13 819, pI (ii w0), pI (ii w1), pI (ii w2), p0, p0] [pI (ii w3)] M6 X := by
    rw [pre, q241_16, b1, kb0, q241_20, i_3, inQ (by omega), e2, t3, i_0, i_1, ii_sub, x1, kb1, q241_33, i_2, inQ (by omega), e3, t2, i_0, i_1, ii_sub, y1, kb1, q241_47, i_1, i_30, u1, kb1, q241_55, i_0, i_999, r1, kb1]
  rcases ps_or (cP5 D n b k R) with ⟨b', hP⟩ | ⟨q, hP⟩
  · have w : iF (cP5 D n b k R) := ⟨b', hP⟩
    have i4 := w
    have i3 := iF_num i4
    have i2 := iF_num i3
    have i1 := iF_num i2
    have i0 := iF_num i1
    have h6 := (iF_one i0).1
    have hw0 := (x5 i1).1
    have hw1 := (y5 i2).1
    have hw2 := (u5 i3).1
    have hw3 := (r5 i4).1
    have pp := r2
    rw [hP] at pp
    have j0 : (ii (126 + 4 * (k : Int) + 0)).toNatClampNeg = 126 + 4 * k := by rw [ii_nat (by omega) (by omega)]; omega
    have j1 : (ii (126 + 4 * (k : Int) + 1)).toNatClampNeg = 127 + 4 * k := by rw [ii_nat (by omega) (by omega)]; omega
    have j2 : (ii (126 + 4 * (k : Int) + 2)).toNatClampNeg = 128 + 4 * k := by rw [ii_nat (by omega) (by omega)]; omega
    have j3 : (ii (126 + 4 * (k : Int) + 3)).toNatClampNeg = 129 + 4 * k := by rw [ii_nat (by omega) (by omega)]; omega
    refine ⟨upM (upM (upM (upM (upM M6 821 (126 + 4 * k) (ii w0)) 821 (127 + 4 * k) (ii w1)) 821 (128 + 4 * k) (ii w2)) 821 (129 + 4 * k) (ii w3)) 821 4 (ii (k + 1)), ?_, r2.q.q.q.q.q, f6.V.tr (FrV.up.tr (FrV.up.tr (FrV.up.tr (FrV.up.tr FrV.up)))), fun _ => ⟨fun z hz => ?_, fun z hz => ?_⟩⟩
    · rw [run, q241_64, pp.bz, i_0, eqT rfl, i_1, i_2, i_3, i_4, i_126, inQ (by omega), e6, h1, ii_mul, ii_add, ii_add, inQ (by omega), ii_add, inQ (by omega), ii_add, inQ (by omega), ii_add, inQ (by omega), inQ (by omega), inQ (by omega), j0, j1, j2, j3, up_d (show (4 : Nat) ≠ 129 + 4 * k by omega), up_d (show (4 : Nat) ≠ 128 + 4 * k by omega), up_d (show (4 : Nat) ≠ 127 + 4 * k by omega), up_d (show (4 : Nat) ≠ 126 + 4 * k by omega), e6, h1, ii_add]
    · rw [up_s, up_s, up_s, up_s, up_s, e6, hw0, hw1, hw2, hw3, hr z hz]
      unfold cRo blk cFu
      by_cases k1 : z = 4
      · rw [if_pos k1, if_pos (show (z : Int) = 4 by omega)]
      · rw [if_neg k1, if_neg (show ¬ ((z : Int) = 4) by omega)]
        by_cases c3 : z = 129 + 4 * k
        · rw [if_pos c3, if_pos (by omega), if_neg (by omega), if_neg (by omega), if_neg (by omega), if_pos (by omega)]
        · rw [if_neg c3]
          by_cases c2 : z = 128 + 4 * k
          · rw [if_pos c2, if_pos (by omega), if_neg (by omega), if_neg (by omega), if_pos (by omega)]
          · rw [if_neg c2]
            by_cases c1 : z = 127 + 4 * k
            · rw [if_pos c1, if_pos (by omega), if_neg (by omega), if_pos (by omega)]
            · rw [if_neg c1]
              by_cases c0 : z = 126 + 4 * k
              · rw [if_pos c0, if_pos (by omega), if_pos (by omega)]
              · rw [if_neg c0]
                by_cases k5 : (126 + 4 * (k : Int)) ≤ z ∧ (z : Int) < 126 + 4 * k + 4
                · omega
                · rw [if_neg k5]
    · rw [up_d (by omega), up_d (by omega), up_d (by omega), up_d (by omega), up_d (by omega), e6]
  · obtain ⟨f, f1, g2, g3⟩ := (hP ▸ r2 : RTP M6 D n (.inr q)).bq
    refine ⟨M6, by rw [run, q241_64, f1, i_0, eqF (by omega)], r2, f6.V, fun w => ?_⟩
    rw [hP] at w
    exact niF w
end LCOM
