/-! the line of a ware -/
section LWAR
set_option maxRecDepth 100000
variable {z y a c lo hi v N x fr st k0 b0 wd v2 v3 : Int} {M M' M0 M1 M2 : Mem} {X : PX} {n m i p t b b' d k ne nw ns nc : Nat} {D : Nat → Int} {P : PS} {R R' : Int → Int} {f : Int → Int}
noncomputable def urS (D : Nat → Int) (n : Nat) : PS → PS
  | .inl b => bif wdB D n b 19 then .inl (nxD D n b) else .inl b
  | .inr q => .inr q
noncomputable def urV (D : Nat → Int) (n : Nat) : PS → Int
  | .inl b => bif wdB D n b 19 then 1 else 0
  | .inr _ => 0
def waP1 (D : Nat → Int) (n b k : Nat) : PS := oneS D n ((8 : Int) ≤ (k : Int)) (.inl b)
def waP2 (D : Nat → Int) (n b k : Nat) (R : Int → Int) : PS := numS D n 0 (R 1 - 1) (waP1 D n b k)
noncomputable def waP3 (D : Nat → Int) (n b k : Nat) (R : Int → Int) : PS := urS D n (waP2 D n b k R)
def waFu (v0 v1 : Int) : Int → Int := fun i => if i = 0 then v0 else if i = 1 then v1 else 0
noncomputable def waRo (D : Nat → Int) (n b k : Nat) (R : Int → Int) : Int → Int := blk R 2 k (42 + 3 * k) 3 (waFu (vaS D n (waP1 D n b k)) (urV D n (waP2 D n b k R)))
theorem plT_2 : ∀ q ∈ plT, q.2.1 = 2 → q = (11, 2, 42, 3) ∨ q = (13, 2, 43, 3) := by decide
theorem plT_o2 : ∀ q ∈ plT, q.2.1 ≠ 2 → 7 ≤ q.1 ∧ q.1 ≤ 29 ∧ q.1 ≠ 11 ∧ q.1 ≠ 13 := by decide
theorem iF_ur (h : iF (urS D n P)) : iF P := by
  cases P with
  | inl b => exact ⟨b, rfl⟩
  | inr q => exact niF h
theorem ur_c (h : CTP M D n P) (hk : k ≤ 8) {z3 : PV} : ∃ M', ev true 264 0 40 [pR 3 4, pR 2 1, pI (ii k), z3] [] M X = some (.inl none, upM M' 5 4 (M' 5 4 + ii 1), X) ∧ CTP M' D n (urS D n P) ∧ FrL M M' ∧ (∀ b, b ≠ 1 → b ≠ 13 → M' b = M b) ∧ (iF P → k < 8 → ∀ j : Nat, M' 13 j = if j = k then ii (urV D n P) else M 13 j) := by
  obtain ⟨r, r1, r2⟩ := S230 (X := X) h 19
  cases r with
  | false =>
    obtain ⟨M1, a1, a2, a3⟩ := S11g (X := X) (M := M) (t := 12) (z := k) (v := ii 0) (by omega)
    refine ⟨M1, by rw [q264_40, r1, kb1, q264_46, i_0, bIT, cond_false, q264_64, a1, kb0, q264_67, show bI false = ii 0 from rfl, i_0, eqT rfl, q264_77, i_1], ?_, FrL.on a2 (by decide), fun b _ h13 => a2 b h13, fun w h8 j => ?_⟩
    · cases P with
      | inl b =>
        have e := r2 b rfl
        show CTP M1 D n (bif wdB D n b 19 then .inl (nxD D n b) else .inl b)
        rw [← e]
        exact h.on a2 (by decide)
      | inr q => exact h.on a2 (by decide)
    · obtain ⟨b, e⟩ := w
      subst e
      have e := r2 b rfl
      show M1 13 j = if j = k then ii (bif wdB D n b 19 then 1 else 0) else M 13 j
      rw [← e, a3 (by rw [rlq 12 8 ln12]; omega) j]
      by_cases k9 : j = k
      · rw [if_pos k9, if_pos (by omega)]; rfl
      · rw [if_neg k9, if_neg (by omega)]
  | true =>
    obtain ⟨M1, a1, a2, a3⟩ := S11g (X := X) (M := M) (t := 12) (z := k) (v := ii 1) (by omega)
    obtain ⟨M2, b1, b2, b3⟩ := S248 (X := X) (h.on a2 (by decide)) 19
    refine ⟨M2, by rw [q264_40, r1, kb1, q264_46, i_0, bIT, cond_true, i_1, q264_64, a1, kb0, q264_67, show bI true = ii 1 from rfl, i_0, eqF (by omega), b1, kb0, q264_77, i_1], ?_, (FrL.on a2 (by decide)).tr b3.L, fun b h1 h13 => (b3.1 b h1).trans (a2 b h13), fun w h8 j => ?_⟩
    · cases P with
      | inl b =>
        have e := r2 b rfl
        have b2 : CTP M2 D n (bif wdB D n b 19 then .inl (nxD D n b) else .inr (1, b)) := b2
        show CTP M2 D n (bif wdB D n b 19 then .inl (nxD D n b) else .inl b)
        rw [← e] at b2 ⊢
        exact b2
      | inr q => exact b2
    · obtain ⟨b, e⟩ := w
      subst e
      have e := r2 b rfl
      show M2 13 j = if j = k then ii (bif wdB D n b 19 then 1 else 0) else M 13 j
      rw [← e, b3.1 13 (by decide), a3 (by rw [rlq 12 8 ln12]; omega) j]
      by_cases k9 : j = k
      · rw [if_pos k9, if_pos (by omega)]; rfl
      · rw [if_neg k9, if_neg (by omega)]
theorem S264 (h : CTP M D n (.inl b)) (hp : PlC M R) (hi : RdI R) (hk : R 2 = k) : ∃ M', ev true 264 0 0 [pR 3 4, pR 2 1, p0, p0] [] M X = some (.inl none, M', X) ∧ CTP M' D n (waP3 D n b k R) ∧ FrL M M' ∧ (iF (waP3 D n b k R) → PlC M' (waRo D n b k R)) := by
  have g := hi.1
  have hc0 : M 5 4 = ii k := by rw [hp.1.2.2.1, hk]
  have m51 := hp.1.2.1
  obtain ⟨M1, a1, a2, a3⟩ := S145 (X := X) h (a := k) (c := 8) (by omega) (by omega)
  have a2 : CTP M1 D n (waP1 D n b k) := a2
  obtain ⟨M2, w0, x1, x2, x3, x4, x5, -⟩ := S144 (X := X) a2 (lo := 0) (hi := R 1 - 1) (by omega) (by omega)
  have x2 : CTP M2 D n (waP2 D n b k R) := x2
  obtain ⟨M3, s1, s2, s3⟩ := S11g (X := X) (M := M2) (t := 10) (z := k) (v := ii w0) (by omega)
  obtain ⟨M4, u1, u2, u3, u4, u5⟩ := ur_c (X := X) (k := k) (x2.on s2 (by decide)) (by omega) (z3 := p0)
  have f4 : FrL M M4 := a3.L.tr (x3.L.tr ((FrL.on s2 (by decide)).tr u3))
  have fz : ∀ b, b ≠ 1 → b ≠ 11 → b ≠ 13 → M4 b = M b := fun b k1 k11 k13 => by rw [u4 b k1 k13, s2 b k11, x3.1 b k1, a3.1 b k1]
  refine ⟨upM M4 5 4 (ii (k + 1)), ?_, CTP.on (M := M4) (a := 5) u2 (fun b hb => by funext y; exact up_n hb) (by decide), f4.tr (FrL.on (a := 5) (fun b hb => by funext y; exact up_n hb) (by decide)), fun w => ?_⟩
  · rw [fz 5 (by decide) (by decide) (by decide), hc0, ii_add] at u1
    rw [q264_0, hc0, i_8, a1, kb0, q264_15, a3.1 5 (by decide), m51, i_0, i_1, ii_sub, x1, kb1, q264_37, s1, kb0, u1]
  · have e1 := iF_ur w
    have e0 := iF_num e1
    have h6 := (iF_one e0).1
    have hw0 := (x5 e1).1
    have hur := u5 e1 (by omega)
    have ro : ∀ z : Int, z ≠ 2 → (z < 42 + 3 * k ∨ 42 + 3 * k + 3 ≤ z) → waRo D n b k R z = R z := fun z => blk_o
    have m5 : ∀ j, j ≠ 4 → upM M4 5 4 (ii (k + 1)) 5 j = M 5 j := fun j hj => by rw [up_d hj, fz 5 (by decide) (by decide) (by decide)]
    refine PlC_add (k0 := 2) (ne := k) hp hi (fun _ _ _ _ _ _ _ => trivial) ⟨?_, ?_, ?_, ?_, ?_, ?_⟩ (fun q hq hq2 => ?_) hk blk_k (fun q hq j hj => ?_) (fun q hq hq2 => ?_) (fun q hq hq2 j => ?_)
    · rw [m5 0 (by decide), ro 0 (by omega) (by omega)]; exact hp.1.1
    · rw [m5 1 (by decide), ro 1 (by omega) (by omega)]; exact hp.1.2.1
    · rw [up_s, if_pos rfl, show waRo D n b k R 2 = k + 1 from blk_k]
    · rw [m5 7 (by decide), ro 3 (by omega) (by omega)]; exact hp.1.2.2.2.1
    · rw [m5 12 (by decide), ro 4 (by omega) (by omega)]; exact hp.1.2.2.2.2.1
    · rw [m5 17 (by decide), ro 9 (by omega) (by omega)]; exact hp.1.2.2.2.2.2
    · have := plT_k q hq
      exact ro _ hq2 (by omega)
    · unfold plT at hq
      simp only [List.mem_cons, List.not_mem_nil, or_false] at hq
      rcases hq with e | e | e | e | e | e | e | e | e | e | e | e <;> subst e <;> (simp only at hj; exact ro _ (by simp only; omega) (by simp only; omega))
    · have := plT_o2 q hq hq2
      rw [← fz q.1 (by omega) (by omega) (by omega)]
      funext y
      exact up_n (by omega)
    · rcases plT_2 q hq hq2 with e | e
      · subst e
        have r1 : waRo D n b k R (42 + 3 * k) = vaS D n (waP1 D n b k) := by
          unfold waRo
          rw [blk_i (by omega) (by omega) (by omega)]
          unfold waFu
          rw [if_pos (by omega)]
        show upM M4 5 4 (ii (k + 1)) 11 j = if j = k then ii (waRo D n b k R (42 + 3 * k)) else M 11 j
        rw [r1, up_n (by decide), u4 11 (by decide) (by decide), s3 (by rw [rlq 10 8 ln10]; omega) j, hw0, x3.1 11 (by decide), a3.1 11 (by decide)]
        by_cases k9 : j = k
        · rw [if_pos k9, if_pos (by omega)]
        · rw [if_neg k9, if_neg (by omega)]
      · subst e
        have r1 : waRo D n b k R (43 + 3 * k) = urV D n (waP2 D n b k R) := by
          unfold waRo
          rw [blk_i (by omega) (by omega) (by omega)]
          unfold waFu
          rw [if_neg (by omega), if_pos (by omega)]
        show upM M4 5 4 (ii (k + 1)) 13 j = if j = k then ii (waRo D n b k R (43 + 3 * k)) else M 13 j
        rw [r1, up_n (by decide), hur j, s2 13 (by decide), x3.1 13 (by decide), a3.1 13 (by decide)]
theorem S253 (h : RTP M D n (.inl b)) (hr : RVw M R) (hi : RdI R) (hk : R 2 = k) : ∃ M', ev true 253 0 0 [pR 13 819, p0, p0] [] M X = some (.inl none, M', X) ∧ RTP M' D n (waP3 D n b k R) ∧ FrV M M' ∧ (iF (waP3 D n b k R) → RVw M' (waRo D n b k R) ∧ ∀ z : Nat, 934 ≤ z → M' 821 z = M 821 z) := by
  have g := hi.1
  have bl := hi.2.2.2.2.2
  have h1 : M 821 2 = ii k := by rw [← hk]; exact hr 2 (by decide)
  have t1 : M 821 1 = ii (R 1) := hr 1 (by decide)
  obtain ⟨M1, a1, a2, a3⟩ := one_r (X := X) (F := (8 : Int) ≤ (k : Int)) h
  have pre : ev true 253 0 0 [pR 13 819, p0, p0] [] M X = ev true 253 0 16 [pR 13 819, p0, p0] [] M1 X := by
    rw [q253_0, i_2, inQ (by omega), h1, i_8, i_4, ieq (by omega)]
    by_cases c : (8 : Int) ≤ k
    · rw [if_pos c] at a1
      rw [if_pos (by omega), a1, kb0]
    · rw [if_neg c] at a1
      cases a1
      rw [if_neg (by omega)]
  obtain ⟨M2, b1, b2, b3⟩ := S192 (X := X) a2
  have b2 : RTP M2 D n (waP1 D n b k) := b2
  have f2 := a3.tr b3
  have e2 : M2 821 = M 821 := f2.1 821 (by decide)
  obtain ⟨M3, w0, x1, x2, x3, x4, x5⟩ := S218 (X := X) b2 (lo := 0) (hi := R 1 - 1) (by omega) (by omega)
  have x2 : RTP M3 D n (waP2 D n b k R) := x2
  -- the word
  obtain ⟨M4, y1, y2, y3⟩ : ∃ M4, ev true 253 0 41 [pR 13 819, pI (ii w0), p0] [pI (bI (wdR D n 19 (waP2 D n b k R)))] M3 X = ev true 253 0 50 [pR 13 819, pI (ii w0), pI (bI (wdR D n 19 (waP2 D n b k R)))] [] M4 X ∧ RTP M4 D n (waP3 D n b k R) ∧ FrP M3 M4 := by
    rw [q253_41, i_0, bIT]
    unfold waP3
    cases hq : waP2 D n b k R with
    | inl b5 =>
      rw [hq] at x2
      rw [wdR_l, show urS D n (Sum.inl b5) = bif wdB D n b5 19 then .inl (nxD D n b5) else .inl b5 from rfl]
      cases wdB D n b5 19 with
      | true =>
        obtain ⟨M4, z1, z2, z3⟩ := S192 (X := X) x2
        exact ⟨M4, by rw [cond_true, z1, kb0], z2, z3⟩
      | false => exact ⟨M3, rfl, x2, FrP.rf⟩
    | inr q =>
      rw [hq] at x2
      exact ⟨M3, rfl, x2, FrP.rf⟩
  have f4 := f2.tr (x3.tr y3)
  have e4 : M4 821 = M 821 := f4.1 821 (by decide)
  have run : ev true 253 0 0 [pR 13 819, p0, p0] [] M X = ev true 253 0 50 [pR 13 819, pI (ii w0), pI (bI (wdR D n 19 (waP2 D n b k R)))] [] M4 X := by
    rw [pre, q253_16, b1, kb0, q253_20, i_1, inQ (by omega), e2, t1, i_0, ii_sub, x1, kb1, q253_33, S238 x2, kb1, y1]
  rcases ps_or (waP3 D n b k R) with ⟨b', hP⟩ | ⟨q, hP⟩
  · have w : iF (waP3 D n b k R) := ⟨b', hP⟩
    have i1 := iF_ur w
    have i0 := iF_num i1
    have h6 := (iF_one i0).1
    have hw0 := (x5 i1).1
    have pp := y2
    rw [hP] at pp
    have hu : bI (wdR D n 19 (waP2 D n b k R)) = ii (urV D n (waP2 D n b k R)) := by
      cases hq : waP2 D n b k R with
      | inl b5 =>
        rw [wdR_l, show urV D n (Sum.inl b5) = bif wdB D n b5 19 then 1 else 0 from rfl]
        cases wdB D n b5 19 <;> rfl
      | inr q => rfl
    have j0 : (ii (42 + 3 * (k : Int) + 0)).toNatClampNeg = 42 + 3 * k := by rw [ii_nat (by omega) (by omega)]; omega
    have j1 : (ii (42 + 3 * (k : Int) + 1)).toNatClampNeg = 43 + 3 * k := by rw [ii_nat (by omega) (by omega)]; omega
    refine ⟨upM (upM (upM M4 821 (42 + 3 * k) (ii w0)) 821 (43 + 3 * k) (ii (urV D n (waP2 D n b k R)))) 821 2 (ii (k + 1)), ?_, y2.q.q.q, f4.V.tr (FrV.up.tr (FrV.up.tr FrV.up)), fun _ => ⟨fun z hz => ?_, fun z hz => ?_⟩⟩
    · rw [← hu]
      rw [run, q253_50, pp.bz, i_0, eqT rfl, i_1, i_2, i_3, i_42, inQ (by omega), e4, h1, ii_mul, ii_add, ii_add, inQ (by omega), inQ (by omega), j0, up_d (show (2 : Nat) ≠ 42 + 3 * k by omega), e4, h1, ii_mul, ii_add, ii_add, bIT]
      cases wdR D n 19 (waP2 D n b k R)
      · rw [cond_false, q253_103, inQ (by omega), i_2, inQ (by omega), inQ (by omega), j1, up_d (show (2 : Nat) ≠ 43 + 3 * k by omega), up_d (show (2 : Nat) ≠ 42 + 3 * k by omega), e4, h1, i_1, ii_add]; rfl
      · rw [cond_true, q253_103, inQ (by omega), i_2, inQ (by omega), inQ (by omega), j1, up_d (show (2 : Nat) ≠ 43 + 3 * k by omega), up_d (show (2 : Nat) ≠ 42 + 3 * k by omega), e4, h1, i_1, ii_add]; rfl
    · rw [up_s, up_s, up_s, e4, hw0, hr z hz]
      unfold waRo blk waFu
      by_cases k1 : z = 2
      · rw [if_pos k1, if_pos (show (z : Int) = 2 by omega)]
      · rw [if_neg k1, if_neg (show ¬ ((z : Int) = 2) by omega)]
        by_cases c1 : z = 43 + 3 * k
        · rw [if_pos c1, if_pos (by omega), if_neg (by omega), if_pos (by omega)]
        · rw [if_neg c1]
          by_cases c0 : z = 42 + 3 * k
          · rw [if_pos c0, if_pos (by omega), if_pos (by omega)]
          · rw [if_neg c0]
            by_cases k5 : (42 + 3 * (k : Int)) ≤ z ∧ (z : Int) < 42 + 3 * k + 3
            · have b1 := bl.2.2.1 k (by omega)
              rw [if_pos k5, if_neg (by omega), if_neg (by omega), show (z : Int) = 44 + 3 * k by omega, b1]
            · rw [if_neg k5]
    · rw [up_d (by omega), up_d (by omega), up_d (by omega), e4]
  · obtain ⟨f, f1, g2, g3⟩ := (hP ▸ y2 : RTP M4 D n (.inr q)).bq
    refine ⟨M4, by rw [run, q253_50, f1, i_0, eqF (by omega)], y2, f4.V, fun w => ?_⟩
    rw [hP] at w
    exact niF w
end LWAR
