/-! feed: both sides -/
section FEED
set_option maxRecDepth 100000
variable {z y c lo hi v N x T T' sh : Int} {M M' M0 M1 M2 : Mem} {X X0 : PX} {n m i p t s : Nat} {D E : Nat → Int} {A B I : AT} {Q : Nat → AT} {k : Bool} {f : Int} {w a b d e : Int32}
theorem a255 (y : Int32) : ∃ z : Int, y &&& 255 = ii z ∧ 0 ≤ z ∧ z < 256 := by
  refine ⟨(y &&& 255).toInt, (Int32.ofInt_toInt _).symm, ?_⟩
  have h1 : (y &&& 255).toBitVec.toNat ≤ 255 := by
    rw [Int32.toBitVec_and, BitVec.toNat_and]
    exact Nat.and_le_right
  have h2 : (y &&& 255).toInt = ((y &&& 255).toBitVec.toNat : Int) := by
    show (y &&& 255).toBitVec.toInt = _
    exact BitVec.toInt_eq_toNat_of_lt (by omega)
  omega
/-- the j-th byte of a word -/
def byX (w : Int32) (sh : Int) : Int32 := (w >>> (ii sh &&& 31)) &&& 255
def byI (w : Int32) (sh : Int) : Int := (byX w sh).toInt
theorem by_ii : byX w sh = ii (byI w sh) ∧ 0 ≤ byI w sh ∧ byI w sh < 256 := by
  obtain ⟨z, h1, h2, h3⟩ := a255 (w >>> (ii sh &&& 31))
  have h1 : byX w sh = ii z := h1
  have h4 : byI w sh = z := by
    unfold byI
    rw [h1, ii_toInt (by omega) (by omega)]
  rw [h4]
  exact ⟨h1, h2, h3⟩
def ptM (M : Mem) (s : Nat) (v : Int32) : Mem := upM (upM M 3 s v) 1 1 (ii (s + 1 : Nat))
theorem S59s (h1 : M 1 1 = ii s) (hs : s < 500) (hh : 0 ≤ sh ∧ sh ≤ 24) : ev true 59 0 3 [pR 2 1, pI w, pI (ii sh)] [] M X = ev true 59 0 3 [pR 2 1, pI w, pI (ii (sh - 8))] [] (ptM M s (byX w sh)) X := by
  have e1 : sc M 2 s (byX w sh) 1 1 = ii s := by rw [sc_n (by decide)]; exact h1
  rw [q59_3, i_0, ltF (by omega), h1, show (w >>> (ii sh &&& 31)) &&& 255 = byX w sh from rfl, S11 (by omega) (by rw [rl2]; omega), kb0, q59_25, e1, i_1, ii_add, i_m8, ii_add]
  rfl
theorem pt_1 {v : Int32} : ptM M s v 1 1 = ii (s + 1 : Nat) := by unfold ptM; rw [up_s, if_pos rfl]
theorem S59 (h1 : M 1 1 = ii s) (hs : s + 4 ≤ 500) : ∃ M', ev true 59 0 0 [pR 2 1, pI w, p0] [] M X = some (.inl none, M', X) ∧ M' 1 1 = ii (s + 4 : Nat) ∧ (∀ i, M' 3 i = if i = s + 3 then byX w 0 else if i = s + 2 then byX w 8 else if i = s + 1 then byX w 16 else if i = s then byX w 24 else M 3 i) ∧ (∀ b, b ≠ 1 → b ≠ 3 → M' b = M b) ∧ ∀ k, k ≠ 1 → M' 1 k = M 1 k := by
  refine ⟨ptM (ptM (ptM (ptM M s (byX w 24)) (s + 1) (byX w 16)) (s + 2) (byX w 8)) (s + 3) (byX w 0), ?_, ?_, fun i => ?_, fun b b1 b3 => ?_, fun k hk => ?_⟩
  · rw [q59_0, i_24, S59s h1 (by omega) (by omega), S59s (s := s + 1) pt_1 (by omega) (by omega), S59s (s := s + 2) pt_1 (by omega) (by omega), S59s (s := s + 3) pt_1 (by omega) (by omega), q59_3, i_0, ltT (by omega)]
    rfl
  · exact pt_1
  · unfold ptM
    rw [up_n (by decide), up_s, up_n (by decide), up_s, up_n (by decide), up_s, up_n (by decide), up_s]
  · unfold ptM
    funext y
    rw [up_n b1, up_n b3, up_n b1, up_n b3, up_n b1, up_n b3, up_n b1, up_n b3]
  · unfold ptM
    rw [up_d hk, up_n (by decide), up_d hk, up_n (by decide), up_d hk, up_n (by decide), up_d hk, up_n (by decide)]
/-- the bytes of a feed -/
def wdF (a b c d e : Int32) (k : Nat) : Int32 := if k < 4 then a else if k < 8 then b else if k < 12 then c else if k < 16 then d else e
def fdX (a b c d e : Int32) (k : Nat) : Int32 := byX (wdF a b c d e k) (24 - 8 * ((k : Int) % 4))
def fdD (D : Nat → Int) (s : Nat) (a b c d e : Int32) : Nat → Int := fun i => if s ≤ i ∧ i < s + 20 then byI (wdF a b c d e (i - s)) (24 - 8 * (((i - s : Nat) : Int) % 4)) else D i
theorem fd_ii {e c : Int32} (i : Nat) (h : s ≤ i ∧ i < s + 20) : fdX a b c d e (i - s) = ii (fdD D s a b c d e i) := by
  unfold fdD fdX
  rw [if_pos h]
  exact by_ii.1
theorem fd4 {c e : Int32} (q : Nat) (g : Nat → Int32) (hg : ∀ j, j < 4 → wdF a b c d e (4 * q + j) = w) (i : Nat) (hi : s + 4 * q ≤ i ∧ i < s + 4 * q + 4) : (if i = s + 4 * q + 3 then byX w 0 else if i = s + 4 * q + 2 then byX w 8 else if i = s + 4 * q + 1 then byX w 16 else if i = s + 4 * q then byX w 24 else g i) = fdX a b c d e (i - s) := by
  unfold fdX
  rcases (by omega : i = s + 4 * q ∨ i = s + 4 * q + 1 ∨ i = s + 4 * q + 2 ∨ i = s + 4 * q + 3) with h | h | h | h
  · rw [if_neg (by omega), if_neg (by omega), if_neg (by omega), if_pos h, show i - s = 4 * q + 0 by omega, hg 0 (by omega)]
    congr 1
    omega
  · rw [if_neg (by omega), if_neg (by omega), if_pos h, show i - s = 4 * q + 1 by omega, hg 1 (by omega)]
    congr 1
    omega
  · rw [if_neg (by omega), if_pos h, show i - s = 4 * q + 2 by omega, hg 2 (by omega)]
    congr 1
    omega
  · rw [if_pos h, show i - s = 4 * q + 3 by omega, hg 3 (by omega)]
    congr 1
    omega
theorem C_feed_n {c e : Int32} (h : CW M A n Q k I s D f) (hs : s ≤ 500) (hc : 480 < s) : ev true 135 0 0 [pR 1 0, pI a, pI b, pI c, pI d, pI e] [] M X = some (.inl (some (pI (ii (-1)))), M, X) := by
  have e1 : M 1 1 = ii s := h.2.2.2.1.1
  rw [q135_0, e1, i_20, i_500, ii_add, ltT (by omega), ii_m1]
theorem C_feed_y {c e : Int32} (h : CW M A n Q k I s D f) (hc : s ≤ 480) : ∃ M', ev true 135 0 0 [pR 1 0, pI a, pI b, pI c, pI d, pI e] [] M X = some (.inl (some (pI (ii (s + 20 : Nat)))), M', X) ∧ CW M' A n Q k I (s + 20) (fdD D s a b c d e) f ∧ ∀ b, 819 ≤ b → M' b = M b := by
  have e1 : M 1 1 = ii s := h.2.2.2.1.1
  obtain ⟨M1, a1, b1, c1, d1, f1⟩ := S59 (X := X) (w := a) e1 (by omega)
  obtain ⟨M2, a2, b2, c2, d2, f2⟩ := S59 (X := X) (w := b) b1 (by omega)
  obtain ⟨M3, a3, b3, c3, d3, f3⟩ := S59 (X := X) (w := c) b2 (by omega)
  obtain ⟨M4, a4, b4, c4, d4, f4⟩ := S59 (X := X) (w := d) b3 (by omega)
  obtain ⟨M5, a5, b5, c5, d5, f5⟩ := S59 (X := X) (w := e) b4 (by omega)
  have fr : ∀ b, b ≠ 1 → b ≠ 3 → M5 b = M b := fun b q1 q2 => by rw [d5 b q1 q2, d4 b q1 q2, d3 b q1 q2, d2 b q1 q2, d1 b q1 q2]
  obtain ⟨h1, h2, h3, h4, h5⟩ := h
  have e5 : M5 1 1 = ii (s + 20 : Nat) := b5
  refine ⟨M5, ?_, ⟨⟨PLv_k h1.1 (fun b q1 q2 _ _ => fr b (by omega) (by omega)) SP.rf, STv_k h1.2.1 (fun b q1 q2 => fr b (by omega) (by omega)) rfl, by rw [fr 83 (by omega) (by omega)]; exact h1.2.2⟩, AC_k h2 (fun b q1 q2 => fr b (by omega) (by omega)), CI_k h3 (by rw [fr 0 (by omega) (by omega)]) (fun b q1 q2 => fr b (by omega) (by omega)), ⟨e5, fun i hi => ?_⟩, by rw [fr 0 (by omega) (by omega)]; exact h5⟩, fun b hb => fr b (by omega) (by omega)⟩
  · rw [q135_0, e1, i_20, i_500, ii_add, ltF (by omega), a1, kb0, q135_26, a2, kb0, q135_34, a3, kb0, q135_42, a4, kb0, q135_51, a5, kb0, q135_60, e5]
  · by_cases q : s ≤ i
    · rw [← fd_ii i ⟨q, hi⟩]
      by_cases q4 : s + 16 ≤ i
      · rw [c5 i]
        exact fd4 4 (fun i => M4 3 i) (fun j hj => by unfold wdF; rw [if_neg (by omega), if_neg (by omega), if_neg (by omega), if_neg (by omega)]) i (by omega)
      · rw [c5 i, if_neg (by omega), if_neg (by omega), if_neg (by omega), if_neg (by omega)]
        by_cases q3 : s + 12 ≤ i
        · rw [c4 i]
          exact fd4 3 (fun i => M3 3 i) (fun j hj => by unfold wdF; rw [if_neg (by omega), if_neg (by omega), if_neg (by omega), if_pos (by omega)]) i (by omega)
        · rw [c4 i, if_neg (by omega), if_neg (by omega), if_neg (by omega), if_neg (by omega)]
          by_cases q2 : s + 8 ≤ i
          · rw [c3 i]
            exact fd4 2 (fun i => M2 3 i) (fun j hj => by unfold wdF; rw [if_neg (by omega), if_neg (by omega), if_pos (by omega)]) i (by omega)
          · rw [c3 i, if_neg (by omega), if_neg (by omega), if_neg (by omega), if_neg (by omega)]
            by_cases q1 : s + 4 ≤ i
            · rw [c2 i]
              exact fd4 1 (fun i => M1 3 i) (fun j hj => by unfold wdF; rw [if_neg (by omega), if_pos (by omega)]) i (by omega)
            · rw [c2 i, if_neg (by omega), if_neg (by omega), if_neg (by omega), if_neg (by omega), c1 i]
              exact fd4 0 (fun i => M 3 i) (fun j hj => by unfold wdF; rw [if_pos (by omega)]) i (by omega)
    · have : fdD D s a b c d e i = D i := by unfold fdD; rw [if_neg (by omega)]
      rw [this, ← h4.2 i (by omega), c5 i, if_neg (by omega), if_neg (by omega), if_neg (by omega), if_neg (by omega), c4 i, if_neg (by omega), if_neg (by omega), if_neg (by omega), if_neg (by omega), c3 i, if_neg (by omega), if_neg (by omega), if_neg (by omega), if_neg (by omega), c2 i, if_neg (by omega), if_neg (by omega), if_neg (by omega), if_neg (by omega), c1 i, if_neg (by omega), if_neg (by omega), if_neg (by omega), if_neg (by omega)]
theorem sh_ok : ∀ k : Nat, k < 20 → (24 - 8 * (ii (k : Int) - ii (k : Int) / 4 * 4) : Int32) = ii (24 - 8 * ((k : Int) % 4)) := by decide +kernel
theorem S43l {c e : Int32} (hs : s ≤ 480) : ∀ (m q : Nat) (z7 : PV) (M1 : Mem), q + m = 20 → M1 819 17 = ii (s + q : Nat) → (∀ b, b ≠ 819 → b ≠ 827 → M1 b = M b) → (∀ k, k ≠ 17 → M1 819 k = M 819 k) → (∀ i, M1 827 i = if s ≤ i ∧ i < s + q then fdX a b c d e (i - s) else M 827 i) → ∃ M', ev true 43 0 23 [pR 13 819, pI a, pI b, pI c, pI d, pI e, pI (ii q), z7] [] M1 X = some (.inl (some (pI (ii (s + 20 : Nat)))), M', X) ∧ M' 819 17 = ii (s + 20 : Nat) ∧ (∀ b, b ≠ 819 → b ≠ 827 → M' b = M b) ∧ (∀ k, k ≠ 17 → M' 819 k = M 819 k) ∧ ∀ i, M' 827 i = if s ≤ i ∧ i < s + 20 then fdX a b c d e (i - s) else M 827 i := by
  intro m
  induction m with
  | zero =>
    intro q z7 M1 h1 h2 h3 h4 h5
    have hq : q = 20 := by omega
    subst hq
    exact ⟨M1, by rw [q43_23, i_20, ltF (by omega), h2], h2, h3, h4, h5⟩
  | succ m ih =>
    intro q z7 M1 h1 h2 h3 h4 h5
    obtain ⟨M', a1, a2⟩ := ih (q + 1) (pI (wdF a b c d e q)) (upM (upM M1 827 (s + q) (fdX a b c d e q)) 819 17 (ii (s + (q + 1) : Nat))) (by omega) (by rw [up_s, if_pos rfl]) (fun b b1 b2 => by rw [← h3 b b1 b2]; funext y; rw [up_n b1, up_n b2]) (fun k hk => by rw [up_d hk, up_n (by decide)]; exact h4 k hk) (fun i => by
      rw [up_n (by decide), up_s, h5 i]
      by_cases k : i = s + q
      · rw [if_pos k, if_pos (by omega), show i - s = q by omega]
      · rw [if_neg k]
        by_cases k2 : s ≤ i ∧ i < s + q
        · rw [if_pos k2, if_pos (by omega)]
        · rw [if_neg k2, if_neg (by omega)])
    refine ⟨M', ?_, a2⟩
    have e76 : ev true 43 0 76 [pR 13 819, pI a, pI b, pI c, pI d, pI e, pI (ii q), z7] [pI (wdF a b c d e q)] M1 X = some (.inl (some (pI (ii (s + 20 : Nat)))), M', X) := by
      rw [q43_76, if_neg (by decide), h2, inbT (by rw [ln827]; omega), ii_nat (by omega) (by omega), show (((s + q : Nat) : Int)).toNat = s + q by omega, sh_ok q (by omega), up_n (show (819 : Nat) ≠ 827 by decide), h2, i_1, ii_add, ii_add]
      exact a1
    rw [q43_23, i_20, ltT (by omega), i_4, ilt (by omega), i_8, ilt (by omega), i_12, ilt (by omega), i_16, ilt (by omega), ← e76]
    unfold wdF
    by_cases k1 : q < 4
    · rw [if_pos (by omega), if_pos k1]
    · rw [if_neg (by omega), if_neg k1]
      by_cases k2 : q < 8
      · rw [if_pos (by omega), if_pos k2]
      · rw [if_neg (by omega), if_neg k2]
        by_cases k3 : q < 12
        · rw [if_pos (by omega), if_pos k3]
        · rw [if_neg (by omega), if_neg k3]
          by_cases k4 : q < 16
          · rw [if_pos (by omega), if_pos k4]
          · rw [if_neg (by omega), if_neg k4]
theorem R_feed_n {c e : Int32} (h : RWx M A n Q k I s D f) (hz : ZW T A n Q k I s D f) (hc : 480 < s) : ∃ M', ev true 43 0 0 [pR 13 819, pI a, pI b, pI c, pI d, pI e, p0, p0] [] M X = some (.inl (some (pI (ii (-1)))), M', X) ∧ RWx M' A n Q k I s D f ∧ (∀ b, b < 819 → M' b = M b) ∧ M' 819 7 = ii 0 := by
  have hs := hz.2.2.2.2.1
  have e1 : upM M 819 7 (ii 0) 819 17 = ii s := by rw [up_d (by decide)]; exact h.2.2.2.1.1
  exact ⟨upM M 819 7 (ii 0), by rw [q43_0, i_0, e1, i_20, i_500, ii_add, ltT (by omega), ii_m1], h.u7 hz, fr7, st7⟩
theorem R_feed_y {c e : Int32} (h : RWx M A n Q k I s D f) (hz : ZW T A n Q k I s D f) (hc : s ≤ 480) : ∃ M', ev true 43 0 0 [pR 13 819, pI a, pI b, pI c, pI d, pI e, p0, p0] [] M X = some (.inl (some (pI (ii (s + 20 : Nat)))), M', X) ∧ RWx M' A n Q k I (s + 20) (fdD D s a b c d e) f ∧ (∀ b, b < 819 → M' b = M b) ∧ M' 819 7 = ii 0 := by
  have e1 : upM M 819 7 (ii 0) 819 17 = ii s := by rw [up_d (by decide)]; exact h.2.2.2.1.1
  obtain ⟨M', a1, a2, a3, a4, a5⟩ := S43l (M := upM M 819 7 (ii 0)) (X := X) (a := a) (b := b) (c := c) (d := d) (e := e) hc 20 0 p0 (upM M 819 7 (ii 0)) (by omega) e1 (fun _ _ _ => rfl) (fun _ _ => rfl) (fun i => by rw [if_neg (by omega)])
  have a1 : ev true 43 0 23 [pR 13 819, pI a, pI b, pI c, pI d, pI e, pI (ii 0), p0] [] (upM M 819 7 (ii 0)) X = _ := a1
  have fr : ∀ b, b ≠ 819 → b ≠ 827 → M' b = M b := fun b q1 q2 => by rw [a3 b q1 q2]; funext y; exact up_n q1
  have fk : ∀ k, k ≠ 17 → k ≠ 7 → M' 819 k = M 819 k := fun k q1 q2 => by rw [a4 k q1, up_d q2]
  obtain ⟨h1, h2, h3, h4, h5⟩ := h
  refine ⟨M', by rw [q43_0, i_0, e1, i_20, i_500, ii_add, ltF (by omega), a1], ⟨h1.mv hz.1.1 (fun z _ _ => rr_at (fr 820 (by decide) (by decide))) (fk 8 (by decide) (by decide)), AR_k h2 (fun i hi => (hz.2.2.1 i hi).1.1) (fk 6 (by decide) (by decide)) (fr 824 (by decide) (by decide)) (fun z _ _ _ => rr_at (fr 820 (by decide) (by decide))), RI_k h3 (fun hk => (hz.2.2.2.1 hk).1) (fk 5 (by decide) (by decide)) (fr 823 (by decide) (by decide)), ⟨a2, fun i hi => ?_⟩, (fk 25 (by decide) (by decide)).trans h5⟩, fun b hb => fr b (by omega) (by omega), by rw [a4 7 (by decide), up_s, if_pos rfl]⟩
  rw [a5 i]
  by_cases q : s ≤ i
  · rw [if_pos ⟨q, hi⟩, fd_ii i ⟨q, hi⟩]
  · have : fdD D s a b c d e i = D i := by unfold fdD; rw [if_neg (by omega)]
    rw [if_neg (by omega), this, up_n (by decide), h4.2 i (by omega)]
theorem P_feed {c e : Int32} (hz : ZW T A n Q k I s D f) : ∃ v s' D', cA (fun M => CW M A n Q k I s D f) (fun M => CW M A n Q k I s' D' f) 135 [pR 1 0, pI a, pI b, pI c, pI d, pI e] v ∧ rA (fun M => RWx M A n Q k I s D f) (fun M => RWx M A n Q k I s' D' f) 43 [pR 13 819, pI a, pI b, pI c, pI d, pI e, p0, p0] v 0 ∧ ZW T A n Q k I s' D' f := by
  obtain ⟨z1, z2, z3, z4, z5, z6, z7⟩ := hz
  by_cases hc : s ≤ 480
  · refine ⟨ii (s + 20 : Nat), s + 20, fdD D s a b c d e, fun M X h => C_feed_y h hc, fun M X h => R_feed_y h ⟨z1, z2, z3, z4, z5, z6, z7⟩ hc, z1, z2, z3, z4, by omega, fun i hi => ?_, z7⟩
    unfold fdD
    by_cases q : s ≤ i ∧ i < s + 20
    · rw [if_pos q]
      exact by_ii.2
    · rw [if_neg q]
      exact z6 i (by omega)
  · exact ⟨ii (-1), s, D, fun M X h => ⟨M, C_feed_n h z5 (by omega), h, fun _ _ => rfl⟩, fun M X h => R_feed_n h ⟨z1, z2, z3, z4, z5, z6, z7⟩ (by omega), z1, z2, z3, z4, z5, z6, z7⟩
end FEED
