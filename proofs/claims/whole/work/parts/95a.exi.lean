/-! the line of an exit -/
section LEXI
set_option maxRecDepth 100000
variable {z y a c lo hi v N x fr st k0 b0 wd v2 v3 : Int} {M M' M0 M1 M2 : Mem} {X : PX} {n m i p t b b' d k ne nw ns nc : Nat} {D : Nat → Int} {P : PS} {R R' : Int → Int} {f : Int → Int}
def xP1 (D : Nat → Int) (n b ne : Nat) : PS := oneS D n ((6 : Int) ≤ (ne : Int)) (.inl b)
def xP2 (D : Nat → Int) (n b ne : Nat) (R : Int → Int) : PS := ownS D n (R 0) (usB (fun j => R (12 + 5 * j)) ne) (xP1 D n b ne)
def xP3 (D : Nat → Int) (n b ne : Nat) (R : Int → Int) : PS := numS D n 1 9 (xP2 D n b ne R)
def xFu (v2 v3 : Int) : Int → Int := fun i => if i = 0 then v2 else if i = 1 then v3 else if i = 3 then -1 else 0
def xRo (D : Nat → Int) (n b ne : Nat) (R : Int → Int) : Int → Int := blk R 1 ne (12 + 5 * ne) 5 (xFu (vaS D n (xP1 D n b ne)) (vaS D n (xP2 D n b ne R)))
theorem plT_k : ∀ q ∈ plT, 1 ≤ q.2.1 ∧ q.2.1 ≤ 4 := by decide
theorem plT_1 : ∀ q ∈ plT, q.2.1 = 1 → q = (7, 1, 12, 5) ∨ q = (9, 1, 13, 5) := by decide
theorem plT_o1 : ∀ q ∈ plT, q.2.1 ≠ 1 → 11 ≤ q.1 ∧ q.1 ≤ 29 := by decide
theorem S231 (h : CTP M D n (.inl b)) (hp : PlC M R) (hi : RdI R) (hne : R 1 = ne) : ∃ M', ev true 231 0 0 [pR 3 4, pR 2 1, p0] [] M X = some (.inl none, M', X) ∧ CTP M' D n (xP3 D n b ne R) ∧ FrL M M' ∧ (iF (xP3 D n b ne R) → PlC M' (xRo D n b ne R)) := by
  have g := hi.1
  have h51 : M 5 1 = ii ne := by rw [hp.1.2.1, hne]
  obtain ⟨M1, a1, a2, a3⟩ := S145 (X := X) h (a := ne) (c := 6) (by omega) (by omega)
  have a2 : CTP M1 D n (xP1 D n b ne) := a2
  obtain ⟨M2, w2, b1, b2, b3, b4, b5⟩ := S204 (X := X) (t := 6) (N := R 0) (k := ne) (u := fun j => R (12 + 5 * j)) a2 (by rw [a3.1 5 (by decide)]; exact hp.1.1) (by omega) (by rw [ln6]; omega) (fun j hj => by
    have h2 := hi.2.1 j (by omega)
    exact ⟨by rw [a3.1 7 (by decide)]; exact hp.2 (7, 1, 12, 5) (by decide) j (by show (j : Int) < R 1; omega), h2.1, by omega⟩)
  have b2 : CTP M2 D n (xP2 D n b ne R) := b2
  obtain ⟨M3, c1, c2, c3⟩ := S11g (X := X) (M := M2) (t := 6) (z := ne) (v := ii w2) (by omega)
  obtain ⟨M4, w3, d1, d2, d3, d4, d5, -⟩ := S144 (X := X) (b2.on c2 (by decide)) (lo := 1) (hi := 9) (by omega) (by omega)
  obtain ⟨M5, e1, e2, e3⟩ := S11g (X := X) (M := M4) (t := 8) (z := ne) (v := ii w3) (by omega)
  have f5 : FrL M M5 := a3.L.tr (b3.L.tr ((FrL.on c2 (by decide)).tr (d3.L.tr (FrL.on e2 (by decide)))))
  have fz : ∀ b, b ≠ 1 → b ≠ 7 → b ≠ 9 → M5 b = M b := fun b k1 k7 k9 => by rw [e2 b k9, d3.1 b k1, c2 b k7, b3.1 b k1, a3.1 b k1]
  refine ⟨upM M5 5 1 (ii (ne + 1)), ?_, CTP.on (M := M5) (a := 5) (d2.on e2 (by decide)) (fun b hb => by funext y; exact up_n hb) (by decide), f5.tr (FrL.on (a := 5) (fun b hb => by funext y; exact up_n hb) (by decide)), fun w => ?_⟩
  · rw [q231_0, h51, i_6, a1, kb0, q231_15, b1, kb1, q231_36, c1, kb0, q231_39, i_1, i_9, d1, kb1, q231_54, e1, kb0, q231_57, fz 5 (by decide) (by decide) (by decide), h51, i_1, ii_add]
  · have w2' := iF_num w
    have w1 := iF_own w2'
    have h6 := (iF_one w1).1
    have hw2 := (b5 w2').1
    have hw3 := (d5 w).1
    have ro : ∀ z : Int, z ≠ 1 → (z < 12 + 5 * ne ∨ 12 + 5 * ne + 5 ≤ z) → xRo D n b ne R z = R z := fun z => blk_o
    have m5 : ∀ k, k ≠ 1 → upM M5 5 1 (ii (ne + 1)) 5 k = M 5 k := fun k hk => by rw [up_d hk, fz 5 (by decide) (by decide) (by decide)]
    refine PlC_add (k0 := 1) (ne := ne) hp hi (fun _ _ _ _ _ _ _ => trivial) ⟨?_, ?_, ?_, ?_, ?_, ?_⟩ (fun q hq hk => ?_) hne blk_k (fun q hq j hj => ?_) (fun q hq hk => ?_) (fun q hq hk j => ?_)
    · rw [m5 0 (by decide), ro 0 (by omega) (by omega)]; exact hp.1.1
    · rw [up_s, if_pos rfl, show xRo D n b ne R 1 = ne + 1 from blk_k]
    · rw [m5 4 (by decide), ro 2 (by omega) (by omega)]; exact hp.1.2.2.1
    · rw [m5 7 (by decide), ro 3 (by omega) (by omega)]; exact hp.1.2.2.2.1
    · rw [m5 12 (by decide), ro 4 (by omega) (by omega)]; exact hp.1.2.2.2.2.1
    · rw [m5 17 (by decide), ro 9 (by omega) (by omega)]; exact hp.1.2.2.2.2.2
    · have := plT_k q hq
      exact ro _ hk (by omega)
    · unfold plT at hq
      simp only [List.mem_cons, List.not_mem_nil, or_false] at hq
      rcases hq with e | e | e | e | e | e | e | e | e | e | e | e <;> subst e <;> (simp only at hj; exact ro _ (by simp only; omega) (by simp only; omega))
    · have := plT_o1 q hq hk
      rw [← fz q.1 (by omega) (by omega) (by omega)]
      funext y
      exact up_n (by omega)
    · rcases plT_1 q hq hk with e | e
      · subst e
        have r1 : xRo D n b ne R (12 + 5 * ne) = vaS D n (xP1 D n b ne) := by
          unfold xRo
          rw [blk_i (by omega) (by omega) (by omega)]
          unfold xFu
          rw [if_pos (by omega)]
        show upM M5 5 1 (ii (ne + 1)) 7 j = if j = ne then ii (xRo D n b ne R (12 + 5 * ne)) else M 7 j
        rw [r1, up_n (by decide), e2 7 (by decide), d3.1 7 (by decide), c3 (by rw [rlq 6 6 ln6]; omega) j, hw2, b3.1 7 (by decide), a3.1 7 (by decide)]
        by_cases k : j = ne
        · rw [if_pos k, if_pos (by omega)]
        · rw [if_neg k, if_neg (by omega)]
      · subst e
        have r1 : xRo D n b ne R (13 + 5 * ne) = vaS D n (xP2 D n b ne R) := by
          unfold xRo
          rw [blk_i (by omega) (by omega) (by omega)]
          unfold xFu
          rw [if_neg (by omega), if_pos (by omega)]
        show upM M5 5 1 (ii (ne + 1)) 9 j = if j = ne then ii (xRo D n b ne R (13 + 5 * ne)) else M 9 j
        rw [r1, up_n (by decide), e3 (by rw [rlq 8 6 ln8]; omega) j, hw3, d3.1 9 (by decide), c2 9 (by decide), b3.1 9 (by decide), a3.1 9 (by decide)]
        by_cases k : j = ne
        · rw [if_pos k, if_pos (by omega)]
        · rw [if_neg k, if_neg (by omega)]
theorem ps_or (P : PS) : (∃ b, P = .inl b) ∨ ∃ q, P = .inr q := by
  cases P with
  | inl b => exact Or.inl ⟨b, rfl⟩
  | inr q => exact Or.inr ⟨q, rfl⟩
theorem RTP.bz (h : RTP M D n (.inl b)) : M 819 23 = ii 0 := h.2.2.2.2.2.2
theorem RTP.bq {q : Int × Nat} (h : RTP M D n (.inr q)) : ∃ f : Int, M 819 23 = ii f ∧ 1 ≤ f ∧ f ≤ 5 := by
  obtain ⟨f, p⟩ := q
  exact ⟨f, h.2.1, h.2.2.1.1, h.2.2.1.2⟩
/-- too many, or not: the reference -/
theorem one_r {F : Prop} [Decidable F] (h : RTP M D n (.inl b)) : ∃ M1, (if F then ev true 46 0 0 [pR 13 819, pI (ii 4)] [] M X else some (.inl none, M, X)) = some (.inl none, M1, X) ∧ RTP M1 D n (if F then failS 4 (.inl b) else .inl b) ∧ FrP M M1 := by
  by_cases c : F
  · obtain ⟨M1, a1, a2, a3⟩ := S46 (X := X) h (c := 4) (by omega)
    rw [if_pos c, if_pos c]
    exact ⟨M1, a1, a2, a3⟩
  · rw [if_neg c, if_neg c]
    exact ⟨M, rfl, h, FrP.rf⟩
theorem S239 (h : RTP M D n (.inl b)) (hr : RVw M R) (hi : RdI R) (hne : R 1 = ne) : ∃ M', ev true 239 0 0 [pR 13 819, p0, p0, p0] [] M X = some (.inl none, M', X) ∧ RTP M' D n (xP3 D n b ne R) ∧ FrV M M' ∧ (iF (xP3 D n b ne R) → RVw M' (xRo D n b ne R) ∧ ∀ z : Nat, 934 ≤ z → M' 821 z = M 821 z) := by
  have g := hi.1
  have bl := hi.2.2.2.2.2
  have h1 : M 821 1 = ii ne := by rw [← hne]; exact hr 1 (by decide)
  obtain ⟨M1, a1, a2, a3⟩ := one_r (X := X) (F := (6 : Int) ≤ (ne : Int)) h
  have pre : ev true 239 0 0 [pR 13 819, p0, p0, p0] [] M X = ev true 239 0 16 [pR 13 819, p0, p0, p0] [] M1 X := by
    rw [q239_0, i_1, inQ (by omega), h1, i_6, i_4, ieq (by omega)]
    by_cases c : (6 : Int) ≤ ne
    · rw [if_pos c] at a1
      rw [if_pos (by omega), a1, kb0]
    · rw [if_neg c] at a1
      cases a1
      rw [if_neg (by omega)]
  obtain ⟨M2, b1, b2, b3⟩ := S192 (X := X) a2
  have b2 : RTP M2 D n (xP1 D n b ne) := b2
  have f2 := a3.tr b3
  have e821 : M2 821 = M 821 := f2.1 821 (by decide)
  obtain ⟨M3, w2, c1, c2, c3, c4, c5⟩ := S220 (X := X) (fr := 12) (st := 5) (k := ne) (N := R 0) (u := fun j => R (12 + 5 * j)) (by omega) b2 (by rw [e821]; exact hr 0 (by decide)) (by omega) (fun j hj => by
    have h2 := hi.2.1 j (by omega)
    refine ⟨?_, h2.1, h2.2.1⟩
    rw [e821, hr _ (by omega)]
    congr 2)
  have c2 : RTP M3 D n (xP2 D n b ne R) := c2
  obtain ⟨M4, w3, d1, d2, d3, d4, d5⟩ := S218 (X := X) c2 (lo := 1) (hi := 9) (by omega) (by omega)
  have d2 : RTP M4 D n (xP3 D n b ne R) := d2
  have f4 := f2.tr (c3.tr d3)
  have run : ∀ x1, x1 = (if M2 821 1 < 5 then M2 821 1 else 5) → ev true 239 0 0 [pR 13 819, p0, p0, p0] [] M X = ev true 239 0 57 [pR 13 819, pI (12 + 5 * x1), pI (ii w2), p0] [pI (ii w3)] M4 X := by
    intro x1 hx
    have h12 : M2 821 (ii 1).toNatClampNeg = ii ne := by rw [e821]; exact h1
    rw [pre, q239_16, b1, kb0, q239_20, i_1, inQ (by omega), q239_33, i_1, inQ (by omega), ← hx, i_12, i_5]
    have e9 : M2 821 1 = ii ne := h12
    rw [e9, c1, kb1, q239_49, i_1, i_9, d1, kb1]
  rcases ps_or (xP3 D n b ne R) with ⟨b', hP⟩ | ⟨q, hP⟩
  · have w : iF (xP3 D n b ne R) := ⟨b', hP⟩
    have w2' := iF_num w
    have w1 := iF_own w2'
    have h6 := (iF_one w1).1
    have hw2 := (c5 w2').1
    have hw3 := (d5 w).1
    have hx : (if M2 821 1 < 5 then M2 821 1 else 5) = ii ne := by
      rw [e821, h1, i_5, ilt (by omega)]
      by_cases k : (ne : Int) < 5
      · rw [if_pos k]
      · rw [if_neg k, show (5 : Int) = ne by omega]
    have d2' := d2
    rw [hP] at d2'
    have e8 : M4 821 = M 821 := f4.1 821 (by decide)
    refine ⟨upM (upM (upM (upM M4 821 (12 + 5 * ne) (ii w2)) 821 (13 + 5 * ne) (ii w3)) 821 (15 + 5 * ne) (ii (-1))) 821 1 (ii (ne + 1)), ?_, d2.q.q.q.q, f4.V.tr (FrV.up.tr (FrV.up.tr (FrV.up.tr FrV.up))), fun _ => ⟨fun z hz => ?_, fun z hz => ?_⟩⟩
    · have j0 : (ii (12 + 5 * (ne : Int) + 0)).toNatClampNeg = 12 + 5 * ne := by rw [ii_nat (by omega) (by omega)]; omega
      have j1 : (ii (12 + 5 * (ne : Int) + 1)).toNatClampNeg = 13 + 5 * ne := by rw [ii_nat (by omega) (by omega)]; omega
      have j3 : (ii (12 + 5 * (ne : Int) + 3)).toNatClampNeg = 15 + 5 * ne := by rw [ii_nat (by omega) (by omega)]; omega
      rw [run _ rfl, hx, q239_57, d2'.bz, ii_m1, i_0, eqT rfl, i_3, i_1, i_12, i_5, ii_mul, ii_add, ii_add, inQ (by omega), ii_add, inQ (by omega), ii_add, inQ (by omega), inQ (by omega), inQ (by omega), j0, j1, j3, up_d (show (1 : Nat) ≠ 15 + 5 * ne by omega), up_d (show (1 : Nat) ≠ 13 + 5 * ne by omega), up_d (show (1 : Nat) ≠ 12 + 5 * ne by omega), e8, h1, ii_add]
    · rw [up_s, up_s, up_s, up_s, e8, hw2, hw3, hr z hz]
      unfold xRo blk xFu
      by_cases k1 : z = 1
      · rw [if_pos k1, if_pos (show (z : Int) = 1 by omega)]
      · rw [if_neg k1, if_neg (show ¬ ((z : Int) = 1) by omega)]
        by_cases k2 : z = 15 + 5 * ne
        · rw [if_pos k2, if_pos (by omega), if_neg (by omega), if_neg (by omega), if_pos (by omega)]
        · rw [if_neg k2]
          by_cases k3 : z = 13 + 5 * ne
          · rw [if_pos k3, if_pos (by omega), if_neg (by omega), if_pos (by omega)]
          · rw [if_neg k3]
            by_cases k4 : z = 12 + 5 * ne
            · rw [if_pos k4, if_pos (by omega), if_pos (by omega)]
            · rw [if_neg k4]
              by_cases k5 : (12 + 5 * (ne : Int)) ≤ z ∧ (z : Int) < 12 + 5 * ne + 5
              · obtain ⟨b1, b2⟩ := bl.2.1 ne (by omega)
                rw [if_pos k5, if_neg (by omega), if_neg (by omega), if_neg (by omega)]
                rcases (by omega : (z : Int) = 14 + 5 * ne ∨ (z : Int) = 16 + 5 * ne) with e | e
                · rw [e, b1]
                · rw [e, b2]
              · rw [if_neg k5]
    · rw [up_d (by omega), up_d (by omega), up_d (by omega), up_d (by omega), e8]
  · obtain ⟨f, f1, f2', f3⟩ := (hP ▸ d2 : RTP M4 D n (.inr q)).bq
    refine ⟨M4, by rw [run _ rfl, q239_57, f1, i_0, eqF (by omega)], d2, f4.V, fun w => ?_⟩
    rw [hP] at w
    exact niF w
end LEXI
