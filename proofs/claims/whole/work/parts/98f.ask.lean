/-! ask: both sides -/
section ASKB
set_option maxRecDepth 100000
variable {z y a c lo hi N x T T' : Int} {M M' M0 M1 M2 : Mem} {X X0 : PX} {n m i t b b' d e s : Nat} {p : Int} {D : Nat → Int} {P : PS} {cs w : List Int} {A B I : AT} {v : (Int → Int32) → Bool} {Q : Nat → AT} {k : Bool} {f : Int} {H : Int → Bool}
/-- the first place, or how many -/
def aLp (H : Int → Bool) (mn : Bool) : Nat → Nat → Int → Int
  | 0, _, c => if mn = true then c else -1
  | m + 1, i, c => if H i = true then (if mn = true then aLp H mn m (i + 1) (c + 1) else i) else aLp H mn m (i + 1) c
theorem CW.ak {g : Int} (h : CW M A n Q k I s D f) (hf : ∀ b, b ≠ 0 → b ≠ 1 → (b < 39 ∨ 49 ≤ b) → M' b = M b) (h0 : M' 0 10 = M 0 10) (h1 : M' 1 1 = ii 0) (h11 : M' 0 11 = ii g) : CW M' A n Q k I 0 D g := by
  obtain ⟨c1, c2, c3, c4, c5⟩ := h
  exact ⟨⟨PLv_k c1.1 (fun b q1 q2 _ _ => hf b (by omega) (by omega) (by omega)) SP.rf, STv_k c1.2.1 (fun b q1 q2 => hf b (by omega) (by omega) (by omega)) rfl, by rw [hf 83 (by omega) (by omega) (by omega)]; exact c1.2.2⟩, AC_k c2 (fun b q1 q2 => hf b (by omega) (by omega) (by omega)), CI_k c3 h0 (fun b q1 q2 => hf b (by omega) (by omega) (by omega)), ⟨by rw [h1]; rfl, fun i hi => by omega⟩, h11⟩
theorem C_ask_n (h : CW M A n Q k I s D f) (hs : s ≤ 500) (hX : XZ X) (ha : B32 a) (hc : ¬ (0 ≤ a ∧ a ≤ s ∧ a ≤ 200)) : ev true 279 0 0 [pR 1 0, pI (ii a), p0, p0] [] M X = some (.inr 2, M, thX X) := by
  have e1 : M 1 1 = ii s := h.2.2.2.1.1
  obtain ⟨a1, a2⟩ := ha
  rw [q279_0, e1, i_0, i_200, ilt (by omega), ilt (by omega), ilt (by omega)]
  by_cases c1 : a < 0
  · rw [if_pos c1, q279_22, thT hX (by decide) (by decide)]
  · rw [if_neg c1]
    by_cases c2 : (s : Int) < a
    · rw [if_pos c2, q279_22, thT hX (by decide) (by decide)]
    · rw [if_neg c2, if_pos (by omega), q279_22, thT hX (by decide) (by decide)]
theorem C_alp {x1 : Int32} {mn : Bool} (hp : PLv M 49 A) (hs : STv M 83 A) (hi : INV A T) (hf : FV M 40 cs []) (hv : VSt cs 22 (fun pv => bI (v pv))) (hm : M 39 1 = bI mn) : ∀ (m i : Nat) (c : Int) (M1 : Mem), (i : Int) + m = A 0 0 → (0 ≤ c ∧ c ≤ 1000 + i) → (∀ b, b ≠ 42 → b ≠ 46 → M1 b = M b) → ∃ M', ev true 279 0 79 [pR 1 0, pI x1, pI (ii c), pI (ii i)] [] M1 X = some (.inl (some (pI (ii (aLp (fun p => v (pvP A p)) mn m i c)))), M', X) ∧ ∀ b, b ≠ 42 → b ≠ 46 → M' b = M b := by
  have g := hi.1
  intro m
  induction m with
  | zero =>
    intro i c M1 h1 hc h2
    have e49 : M1 49 0 = ii (A 0 0) := by rw [h2 49 (by decide) (by decide)]; exact hp.1
    refine ⟨M1, ?_, h2⟩
    rw [q279_79, e49, ltF (by omega), h2 39 (by decide) (by decide), hm, i_0, bIT]
    unfold aLp
    cases mn with
    | true => rw [cond_true, if_pos rfl, q279_145]
    | false => rw [cond_false, if_neg Bool.false_ne_true, ii_m1, q279_145]
  | succ m ih =>
    intro i c M1 h1 hc h2
    have e49 : M1 49 0 = ii (A 0 0) := by rw [h2 49 (by decide) (by decide)]; exact hp.1
    have hp1 : PLv M1 49 A := PLv_k hp (fun b b1 b2 _ _ => h2 b (by omega) (by omega)) SP.rf
    have hs1 : STv M1 83 A := STv_k hs (fun b b1 b2 => h2 b (by omega) (by omega)) rfl
    have hf1 : FV M1 40 cs [] := hf.at (h2 40 (by decide) (by decide)) (h2 44 (by decide) (by decide)) (h2 48 (by decide) (by decide))
    obtain ⟨M2, a1, a2⟩ := S206 (X := X) (p := (i : Int)) hp1 hs1 hi hf1 hv (by omega)
    have h3 : ∀ b, b ≠ 42 → b ≠ 46 → M2 b = M b := fun b b1 b2 => (a2 b b1 b2).trans (h2 b b1 b2)
    have m39 : M2 39 1 = bI mn := by rw [h3 39 (by decide) (by decide)]; exact hm
    unfold aLp
    rw [q279_79, e49, ltT (by omega), a1, kt1, q279_106, i_0, bIT]
    cases hv : v (pvP A (i : Int)) with
    | false =>
      obtain ⟨M', b1, b2⟩ := ih (i + 1) c M2 (by omega) (by omega) h3
      refine ⟨M', ?_, b2⟩
      rw [cond_false, if_neg Bool.false_ne_true, q279_124, i_1, ii_add]
      exact b1
    | true =>
      rw [cond_true, if_pos rfl, m39, bIT]
      cases mn with
      | true =>
        obtain ⟨M', b1, b2⟩ := ih (i + 1) (c + 1) M2 (by omega) (by omega) h3
        refine ⟨M', ?_, b2⟩
        rw [cond_true, if_pos rfl, q279_124, i_1, ii_add, ii_add]
        exact b1
      | false =>
        rw [cond_false, if_neg Bool.false_ne_true]
        exact ⟨M2, rfl, h3⟩
theorem i_mFAR : (-1000000000 : Int32) = ii (-1000000000) := rfl
theorem C_ask_f {g : Int} {p : Nat} (hb : QstO D m (.inr (g, p)) v cs) (h : CW M A n Q k I s D f) (hm : m ≤ s) (hs : s ≤ 500) (h200 : m ≤ 200) : ∃ M', ev true 279 0 0 [pR 1 0, pI (ii m), p0, p0] [] M X = some (.inl (some (pI (ii (-1000000000 - g)))), M', X) ∧ CW M' A n Q k I 0 D p ∧ ∀ b, 819 ≤ b → M' b = M b := by
  have e1 : M 1 1 = ii s := h.2.2.2.1.1
  obtain ⟨M1, a1, a2, a3, a4, a5, a6⟩ := hb.1 M X (fun i hi => h.2.2.2.1.2 i (by omega))
  have g6 := a2.2.2.1
  have g5 := a2.2.2.2.1
  have g7 := a2.2.2.2.2.1
  have fr : ∀ b, b ≠ 0 → b ≠ 1 → (b < 39 ∨ 49 ≤ b) → upM M1 0 11 (ii p) b = M b := fun b b0 b1 b2 => by rw [← a3 b b1 (by omega) (by omega) (by omega) (by omega)]; funext y; exact up_n b0
  refine ⟨upM M1 0 11 (ii p), ?_, h.ak fr (by rw [up_d (by decide), a3 0 (by decide) (by decide) (by decide) (by decide) (by decide)]) (by rw [up_n (by decide)]; exact a4) (by rw [up_s, if_pos rfl]), fun b hb => fr b (by omega) (by omega) (by omega)⟩
  rw [q279_0, e1, i_0, ltF (by omega), ltF (by omega), i_200, ltF (by omega), a1, kt0, q279_42, g7, up_n (show (1 : Nat) ≠ 0 by decide), g6, i_0, eqF (by omega), i_mFAR, ii_sub]
theorem C_ask_y (hb : QstO D m (.inl b') v cs) (h : CW M A n Q k I s D f) (hi : INV A T) (hm : m ≤ s) (hs : s ≤ 500) (h200 : m ≤ 200) : ∃ M', ev true 279 0 0 [pR 1 0, pI (ii m), p0, p0] [] M X = some (.inl (some (pI (ii (aLp (fun p => v (pvP A p)) (mnB D m) (A 0 0).toNat 0 0)))), M', X) ∧ CW M' A n Q k I 0 D (-1) ∧ ∀ b, 819 ≤ b → M' b = M b := by
  have g := hi.1
  have e1 : M 1 1 = ii s := h.2.2.2.1.1
  obtain ⟨M1, a1, a2, a3, a4, a5, a6⟩ := hb.1 M X (fun i hi => h.2.2.2.1.2 i (by omega))
  have fv := a6 ⟨b', rfl⟩
  have hv := (hb.2.2 ⟨b', rfl⟩).1
  have g6 := a2.2.2.1
  have g7 := a2.2.2.2
  obtain ⟨M2, m2⟩ : ∃ M2, M2 = upM M1 0 11 (ii (-1)) := ⟨_, rfl⟩
  have fr : ∀ b, b ≠ 0 → b ≠ 1 → (b < 39 ∨ 49 ≤ b) → M2 b = M b := fun b b0 b1 b2 => by rw [← a3 b b1 (by omega) (by omega) (by omega) (by omega), m2]; funext y; exact up_n b0
  have f0 : ∀ b, b ≠ 0 → M2 b = M1 b := fun b hb => by rw [m2]; funext y; exact up_n hb
  have cw : CW M2 A n Q k I 0 D (-1) := h.ak fr (by rw [m2, up_d (by decide), a3 0 (by decide) (by decide) (by decide) (by decide) (by decide)]) (by rw [f0 1 (by decide)]; exact a4) (by rw [m2, up_s, if_pos rfl])
  obtain ⟨M3, b1, b2⟩ := C_alp (X := X) (x1 := ii m) (mn := mnB D m) cw.1.1 cw.1.2.1 hi (fv.at (f0 40 (by decide)) (f0 44 (by decide)) (f0 48 (by decide))) hv (by rw [f0 39 (by decide)]; exact a5) (A 0 0).toNat 0 0 M2 (by omega) (by omega) (fun _ _ _ => rfl)
  have b1 : ev true 279 0 79 [pR 1 0, pI (ii m), pI (ii 0), pI (ii 0)] [] M2 X = _ := b1
  refine ⟨M3, ?_, cw.ak (fun b b0 b1 b3 => b2 b (by omega) (by omega)) (by rw [b2 0 (by decide) (by decide)]) (by rw [b2 1 (by decide) (by decide), f0 1 (by decide)]; exact a4) (by rw [b2 0 (by decide) (by decide), m2, up_s, if_pos rfl]), fun b hb => (b2 b (by omega) (by omega)).trans (fr b (by omega) (by omega) (by omega))⟩
  rw [q279_0, e1, i_0, ltF (by omega), ltF (by omega), i_200, ltF (by omega), a1, kt0, q279_42, g7, up_n (show (1 : Nat) ≠ 0 by decide), g6, i_0, eqT rfl, ← m2, b1]
theorem R_ask_n (h : RWx M A n Q k I s D f) (hz : ZW T A n Q k I s D f) (ha : B32 a) (hc : ¬ (0 ≤ a ∧ a ≤ s ∧ a ≤ 200)) : ∃ M', ev true 307 0 0 [pR 13 819, pI (ii a), p0, p0, p0, p0, p0] [] M X = some (.inl (some (pI (ii 0))), M', X) ∧ RWx M' A n Q k I s D f ∧ (∀ b, b < 819 → M' b = M b) ∧ M' 819 7 = ii 1 := by
  have hs := hz.2.2.2.2.1
  have e1 : upM M 819 7 (ii 0) 819 17 = ii s := by rw [up_d (by decide)]; exact h.2.2.2.1.1
  obtain ⟨a1, a2⟩ := ha
  have go : ev true 307 0 24 [pR 13 819, pI (ii a), p0, p0, p0, p0, p0] [] (upM M 819 7 (ii 0)) X = some (.inl (some (pI (ii 0))), upM (upM M 819 7 (ii 0)) 819 7 (ii 1), X) := by
    rw [q307_24, i_1, q27_0, kb1, q307_29, i_0]
  refine ⟨upM (upM M 819 7 (ii 0)) 819 7 (ii 1), ?_, (h.u7 hz).u7 hz, fun b hb => by rw [fr7 b hb, fr7 b hb], st7⟩
  rw [q307_0, i_0, e1, i_200, ilt (by omega), ilt (by omega), ilt (by omega)]
  by_cases c1 : a < 0
  · rw [if_pos c1, go]
  · rw [if_neg c1]
    by_cases c2 : (s : Int) < a
    · rw [if_pos c2, go]
    · rw [if_neg c2, if_pos (by omega), go]
theorem R_alp {x4 : Int32} {z3 : PV} {fs : Bool} (hb : QstO D m (.inl b') v cs) (hw : WR M A T) (h8 : ∀ i, i < m → M 827 i = ii (D i)) : ∀ (r i : Nat) (c : Int) (M1 : Mem), (i : Int) + r = A 0 0 → (0 ≤ c ∧ c ≤ 1000 + i) → (∀ b, b ≠ 819 → M1 b = M b) → (∀ k, k < 18 ∨ k = 25 ∨ 27 < k → M1 819 k = M 819 k) → ∃ M', ev true 307 0 74 [pR 13 819, pI (ii m), pI (bI fs), z3, pI x4, pI (ii c), pI (ii i)] [] M1 X = some (.inl (some (pI (ii (aLp (fun p => v (pvP A p)) (!fs) r i c)))), M', X) ∧ (∀ b, b ≠ 819 → M' b = M b) ∧ ∀ k, k < 18 ∨ k = 25 ∨ 27 < k → M' 819 k = M 819 k := by
  have g := hw.2.1.1
  intro r
  induction r with
  | zero =>
    intro i c M1 h1 hc h2 h3
    have e0 : rr M1 0 = ii (A 0 0) := by rw [rr_at (h2 820 (by decide))]; exact hw.1.1 0 (by omega) (by omega)
    refine ⟨M1, ?_, h2, h3⟩
    rw [q307_74, S23, kb1, e0, q307_80, ltF (by omega), i_0, bIT]
    unfold aLp
    cases fs with
    | true => rw [cond_true, ii_m1, q307_122]; rfl
    | false => rw [cond_false, q307_122]; rfl
  | succ r ih =>
    intro i c M1 h1 hc h2 h3
    have e0 : rr M1 0 = ii (A 0 0) := by rw [rr_at (h2 820 (by decide))]; exact hw.1.1 0 (by omega) (by omega)
    obtain ⟨M2, x, a1, a2, a3, a4, a5⟩ := hb.2.1 M1 X A T (i : Int) (fun i hi => by rw [h2 827 (by decide)]; exact h8 i hi) (WR_k hw (h2 820 (by decide))) (by omega)
    have hx := a5 ⟨b', rfl⟩
    subst hx
    have k2 : ∀ b, b ≠ 819 → M2 b = M b := fun b hb => (a3 b hb).trans (h2 b hb)
    have k3 : ∀ k, k < 18 ∨ k = 25 ∨ 27 < k → M2 819 k = M 819 k := fun k hk => (a4 k hk).trans (h3 k hk)
    unfold aLp
    rw [q307_74, S23, kb1, e0, q307_80, ltT (by omega), a1, kb1, q307_90, i_0, bIT]
    cases hv : v (pvP A (i : Int)) with
    | false =>
      obtain ⟨M', b1, b2⟩ := ih (i + 1) c M2 (by omega) (by omega) k2 k3
      refine ⟨M', ?_, b2⟩
      rw [cond_false, if_neg Bool.false_ne_true, q307_106, i_1, ii_add]
      exact b1
    | true =>
      rw [cond_true, if_pos rfl, bIT]
      cases fs with
      | true =>
        rw [cond_true]
        exact ⟨M2, rfl, k2, k3⟩
      | false =>
        obtain ⟨M', b1, b2⟩ := ih (i + 1) (c + 1) M2 (by omega) (by omega) k2 k3
        refine ⟨M', ?_, b2⟩
        rw [cond_false, q307_106, i_1, ii_add, ii_add]
        exact b1
/-- the reference behind a question's end -/
theorem R_qst (h : RWx M A n Q k I s D f) (hz : ZW T A n Q k I s D f) (hT : T < 1000000) (hb : QstO D m P v cs) (hm : m ≤ s) (h200 : m ≤ 200) : ∃ M2 z, ev true 307 0 0 [pR 13 819, pI (ii m), p0, p0, p0, p0, p0] [] M X = ev true 307 0 54 [pR 13 819, pI (ii m), pI (bI (wdB D m (bgT D m 0) 5)), pI z, p0, p0, p0] [pI (ii (faK P))] (upM (upM M2 819 17 (ii 0)) 819 25 (ii (faP P))) X ∧ RTP M2 D m P ∧ (∀ b, b ≠ 819 → M2 b = M b) ∧ (∀ k, k < 17 → k ≠ 7 → M2 819 k = M 819 k) ∧ M2 819 7 = ii 0 := by
  have hs := hz.2.2.2.2.1
  have hD := hz.2.2.2.2.2.1
  have e1 : upM M 819 7 (ii 0) 819 17 = ii s := by rw [up_d (by decide)]; exact h.2.2.2.1.1
  have hN : 0 ≤ (0 : Int) ∧ (0 : Int) < A 0 0 := by have := hz.1.1.1; omega
  have f0 : ∀ b, b ≠ 819 → upM M 819 7 (ii 0) b = M b := fun b hb => by funext y; exact up_n hb
  obtain ⟨M1, a1, a2, a3, a4, a5⟩ := S191 (M := upM M 819 7 (ii 0)) (X := X) (D := D) (n := m) (fun i hi => ⟨by rw [f0 827 (by decide)]; exact h.2.2.2.1.2 i (by omega), hD i (by omega)⟩) (by omega)
  have fr1 : ∀ b, b ≠ 819 → M1 b = M b := fun b hb => (a3 b hb).trans (f0 b hb)
  have hw : WR M A T := ⟨h.1.1, hz.1.1, by omega, hz.1.2.1⟩
  obtain ⟨M2, x, b1, b2, b3, b4, b5⟩ := hb.2.1 M1 X A T 0 (fun i hi => by rw [fr1 827 (by decide)]; exact h.2.2.2.1.2 i (by omega)) (WR_k hw (fr1 820 (by decide))) hN
  obtain ⟨M3, c1, c2⟩ := S48 (X := X) b2
  refine ⟨M2, bI x, ?_, b2, fun b hb => (b3 b hb).trans (fr1 b hb), fun k k1 k7 => by rw [b4 k (by omega), a5 k (by omega), up_d k7], by rw [b4 7 (by omega), a5 7 (by omega), up_s, if_pos rfl]⟩
  rw [q307_0, i_0, e1, ltF (by omega), ltF (by omega), i_200, ltF (by omega), a1, kb0, q307_35, S238 a2, kb1, wdR_l, q307_42, i_0, b1, kb1, q307_49, c1, kb1, c2]
theorem R_ask_f {g : Int} {p : Nat} (hb : QstO D m (.inr (g, p)) v cs) (h : RWx M A n Q k I s D f) (hz : ZW T A n Q k I s D f) (hT : T < 1000000) (hm : m ≤ s) (h200 : m ≤ 200) : ∃ M', ev true 307 0 0 [pR 13 819, pI (ii m), p0, p0, p0, p0, p0] [] M X = some (.inl (some (pI (ii (-1000000000 - g)))), M', X) ∧ RWx M' A n Q k I 0 D p ∧ (∀ b, b < 819 → M' b = M b) ∧ M' 819 7 = ii 0 := by
  obtain ⟨M2, z, a1, a2, a3, a4, a5⟩ := R_qst (X := X) h hz hT hb hm h200
  have g2 := a2.2.2.1
  have fr : ∀ b, b ≠ 819 → upM (upM M2 819 17 (ii 0)) 819 25 (ii p) b = M b := fun b q1 => by rw [← a3 b q1]; funext y; rw [up_n q1, up_n q1]
  have fk : ∀ k, k < 17 → k ≠ 7 → upM (upM M2 819 17 (ii 0)) 819 25 (ii p) 819 k = M 819 k := fun k q1 q2 => by rw [up_d (by omega), up_d (by omega)]; exact a4 k (by omega) q2
  refine ⟨upM (upM M2 819 17 (ii 0)) 819 25 (ii p), ?_, h.nw hz (h.1.mv hz.1.1 (fun z _ _ => rr_at (fr 820 (by decide))) (fk 8 (by omega) (by decide))) (AR_k h.2.1 (fun i hi => (hz.2.2.1 i hi).1.1) (fk 6 (by omega) (by decide)) (fr 824 (by decide)) (fun z _ _ _ => rr_at (fr 820 (by decide)))) (fk 5 (by omega) (by decide)) (fr 823 (by decide)) (by rw [up_d (by decide), up_s, if_pos rfl]) (by rw [up_s, if_pos rfl]), fun b hb => fr b (by omega), by rw [up_d (by decide), up_d (by decide)]; exact a5⟩
  rw [a1]
  show ev true 307 0 54 _ [pI (ii g)] _ X = _
  rw [q307_54, i_0, eqF (by omega), i_mFAR, ii_sub]
  rfl
theorem R_ask_y (hb : QstO D m (.inl b') v cs) (h : RWx M A n Q k I s D f) (hz : ZW T A n Q k I s D f) (hT : T < 1000000) (hm : m ≤ s) (h200 : m ≤ 200) : ∃ M', ev true 307 0 0 [pR 13 819, pI (ii m), p0, p0, p0, p0, p0] [] M X = some (.inl (some (pI (ii (aLp (fun p => v (pvP A p)) (mnB D m) (A 0 0).toNat 0 0)))), M', X) ∧ RWx M' A n Q k I 0 D (-1) ∧ (∀ b, b < 819 → M' b = M b) ∧ M' 819 7 = ii 0 := by
  have g := hz.1.1.1
  obtain ⟨M2, z, a1, a2, a3, a4, a5⟩ := R_qst (X := X) h hz hT hb hm h200
  obtain ⟨M3, m3⟩ : ∃ M3, M3 = upM (upM M2 819 17 (ii 0)) 819 25 (ii (-1)) := ⟨_, rfl⟩
  have fr : ∀ b, b ≠ 819 → M3 b = M b := fun b q1 => by rw [← a3 b q1, m3]; funext y; rw [up_n q1, up_n q1]
  have fk : ∀ k, k < 17 → k ≠ 7 → M3 819 k = M 819 k := fun k q1 q2 => by rw [m3, up_d (by omega), up_d (by omega)]; exact a4 k (by omega) q2
  have hw : WR M A T := ⟨h.1.1, hz.1.1, by omega, hz.1.2.1⟩
  have hfs : (!wdB D m (bgT D m 0) 5) = mnB D m := by
    cases hmn : mnB D m with
    | false => rw [(hb.2.2 ⟨b', rfl⟩).2 hmn]; rfl
    | true =>
      cases h5 : wdB D m (bgT D m 0) 5 with
      | false => rfl
      | true =>
        exfalso
        have w9 := (wdB_t.1 hmn).2.1
        have w5 := (wdB_t.1 h5).2.1
        have : sln 9 ≠ sln 5 := by decide +kernel
        omega
  obtain ⟨M4, b1, b2, b3⟩ := R_alp (M := M3) (X := X) (x4 := ii 0) (z3 := pI z) (fs := wdB D m (bgT D m 0) 5) hb (WR_k hw (fr 820 (by decide))) (fun i hi => by rw [fr 827 (by decide)]; exact h.2.2.2.1.2 i (by omega)) (A 0 0).toNat 0 0 M3 (by omega) (by omega) (fun _ _ => rfl) (fun _ _ => rfl)
  rw [hfs] at b1
  have b1 : ev true 307 0 74 [pR 13 819, pI (ii m), pI (bI (wdB D m (bgT D m 0) 5)), pI z, pI (ii 0), pI (ii 0), pI (ii 0)] [] M3 X = _ := b1
  have fr4 : ∀ b, b ≠ 819 → M4 b = M b := fun b hb => (b2 b hb).trans (fr b hb)
  have fk4 : ∀ k, k < 17 → k ≠ 7 → M4 819 k = M 819 k := fun k q1 q2 => (b3 k (by omega)).trans (fk k q1 q2)
  refine ⟨M4, ?_, h.nw hz (h.1.mv hz.1.1 (fun z _ _ => rr_at (fr4 820 (by decide))) (fk4 8 (by omega) (by decide))) (AR_k h.2.1 (fun i hi => (hz.2.2.1 i hi).1.1) (fk4 6 (by omega) (by decide)) (fr4 824 (by decide)) (fun z _ _ _ => rr_at (fr4 820 (by decide)))) (fk4 5 (by omega) (by decide)) (fr4 823 (by decide)) (by rw [b3 17 (by omega), m3, up_d (by decide), up_s, if_pos rfl]) (by rw [b3 25 (by omega), m3, up_s, if_pos rfl]), fun b hb => fr4 b (by omega), by rw [b3 7 (by omega), m3, up_d (by decide), up_d (by decide)]; exact a5⟩
  rw [a1]
  show ev true 307 0 54 _ [pI (ii 0)] (upM (upM M2 819 17 (ii 0)) 819 25 (ii (-1))) X = _
  rw [← m3, q307_54, i_0, eqT rfl, b1]
theorem P_ask_y (hz : ZW T A n Q k I s D f) (hT : T < 1000000) (h0 : CW M0 A n Q k I s D f) (hc : 0 ≤ a ∧ a ≤ s ∧ a ≤ 200) : ∃ v f', cA (fun M => CW M A n Q k I s D f) (fun M => CW M A n Q k I 0 D f') 279 [pR 1 0, pI (ii a), p0, p0] v ∧ rA (fun M => RWx M A n Q k I s D f) (fun M => RWx M A n Q k I 0 D f') 307 [pR 13 819, pI (ii a), p0, p0, p0, p0, p0] v 0 ∧ ZW T A n Q k I 0 D f' := by
  obtain ⟨m, rfl⟩ := natOf hc.1
  have hs := hz.2.2.2.2.1
  have hD : ∀ i, i < m → 0 ≤ D i ∧ D i < 256 := fun i hi => hz.2.2.2.2.2.1 i (by omega)
  obtain ⟨P, v, cs, hb⟩ := ask_text (D := D) (n := m) (by omega) hD
  cases P with
  | inr q =>
    obtain ⟨g, p⟩ := q
    refine ⟨ii (-1000000000 - g), p, fun M X h => C_ask_f hb h (by omega) hs (by omega), fun M X h => R_ask_f hb h hz hT (by omega) (by omega), hz.1, hz.2.1, hz.2.2.1, hz.2.2.2.1, by omega, fun i hi => by omega, by omega, ?_⟩
    obtain ⟨M1, a1, a2, -⟩ := hb.1 M0 (0, 0, 0, 0, 0, 0) (fun i hi => h0.2.2.2.1.2 i (by omega))
    have := a2.2.2.2.2.2
    omega
  | inl b' =>
    exact ⟨_, -1, fun M X h => C_ask_y hb h hz.1.1 (by omega) hs (by omega), fun M X h => R_ask_y hb h hz hT (by omega) (by omega), hz.1, hz.2.1, hz.2.2.1, hz.2.2.2.1, by omega, fun i hi => by omega, by omega, by omega⟩
theorem P_ask_n (hz : ZW T A n Q k I s D f) (ha : B32 a) (hc : ¬ (0 ≤ a ∧ a ≤ s ∧ a ≤ 200)) : cT (fun M => CW M A n Q k I s D f) 279 [pR 1 0, pI (ii a), p0, p0] 2 ∧ rA (fun M => RWx M A n Q k I s D f) (fun M => RWx M A n Q k I s D f) 307 [pR 13 819, pI (ii a), p0, p0, p0, p0, p0] (ii 0) 1 :=
  ⟨fun M X h hX => C_ask_n h hz.2.2.2.2.1 hX ha hc, fun M X h => R_ask_n h hz ha hc⟩
end ASKB
