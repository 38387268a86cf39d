/-! belt: both sides -/
section BELT
set_option maxRecDepth 100000
variable {z y a c lo hi v N x T T' : Int} {M M' M0 M1 M2 : Mem} {X X0 : PX} {n m i p t b b' d ne f0 e0 s : Nat} {D E : Nat → Int} {P : PS} {R R' : Int → Int} {cs cs' : List Int} {A B I : AT} {Q : Nat → AT} {k : Bool} {f : Int}
theorem bg_STv (hi : RdI R) (h0 : M 83 0 = ii 0) (h6 : M 84 6 = ii (R 0)) (h7 : M 84 7 = ii 0) (l1 : M 130 1 = ii 0) (l2 : M 130 2 = ii 0) (hr : ∀ i, i < 40 → M 86 i = ii (-1) ∧ M 88 i = ii (-1) ∧ M 90 i = ii (-1) ∧ M 96 i = ii (-1)) (hq : ∀ i, i < 6 → M 103 i = ii 0) (hs : ∀ i : Nat, (i : Int) < R 3 → M 105 i = ii (R (67 + 10 * i)) ∧ M 107 i = ii (R (68 + 10 * i)) ∧ M 109 i = ii (R (69 + 10 * i))) (hz : ∀ q, q ∈ [111, 113, 115, 117, 119, 121, 123, 125, 127] → ∀ i, i < 6 → M q i = ii 0) (hw : ∀ i, i < 8 → M 129 i = ii 0) : STv M 83 (bgA R cs) := by
  obtain ⟨g, ge, gw, gs, gc, gb⟩ := hi
  have b5 := gb.1 5 (by omega) (by omega)
  have b8 := gb.1 8 (by omega) (by omega)
  have zr : ∀ (t F : Nat) (N : Int), (t + 1) ∈ [111, 113, 115, 117, 119, 121, 123, 125, 127] → N ≤ 6 → (∀ j : Int, 0 ≤ j → j < 6 → bgA R cs F j = 0) → RW M t N (bgA R cs) F := by
    intro t F N ht hN hF j j0 j1
    rw [hF j j0 (by omega)]
    exact hz (t + 1) ht j.toNat (by omega)
  refine ⟨by rw [bg_0, b5]; exact h0, ⟨0, by omega, by rw [bg_0]; omega, by rw [bg_0]; omega, h7, by rw [bg_0]; exact h6, fun q q0 q1 => ?_⟩, fun j j0 j1 => ?_, ⟨0, by omega, by omega, l1, by rw [bg_0, b8]; exact l2, by rw [bg_0]; omega, by rw [bg_0]; omega, fun q p a b c d => ?_⟩, fun j j0 j1 => ?_, fun j j0 j1 => ?_, fun j j0 j1 => ?_, zr 110 45 _ (by decide) (by rw [bg_0]; omega) (fun j a b => bl_s gb a b (by omega)), zr 112 90 _ (by decide) (by rw [bg_0]; omega) (fun j a b => rfl), zr 114 46 _ (by decide) (by rw [bg_0]; omega) (fun j a b => bl_s gb a b (by omega)), zr 116 47 _ (by decide) (by omega) (fun j a b => bl_s gb a b (by omega)), zr 118 48 _ (by decide) (by omega) (fun j a b => bl_s gb a b (by omega)), zr 120 49 _ (by decide) (by rw [bg_0]; omega) (fun j a b => bl_s gb a b (by omega)), zr 122 35 _ (by decide) (by rw [bg_0]; omega) (fun j a b => rfl), zr 124 32 _ (by decide) (by rw [bg_0]; omega) (fun j a b => (bl_e gb a b).1), zr 126 34 _ (by decide) (by omega) (fun j a b => (bl_e gb a b).2), fun j j0 j1 => ?_⟩
  · rw [bg_0] at q1
    have e : cR (bgA R cs 0 0) 0 q = q := by unfold cR; rw [if_neg (by omega)]; omega
    obtain ⟨r1, r2, r3, r4⟩ := hr q.toNat (by omega)
    rw [e]
    exact ⟨r1, r2, r3, fun w => absurd (bg_20 (R := R) (cs := cs) (k := q)) w, r4⟩
  · have h44 : bgA R cs 44 j = 0 := bl_s gb (k := 70) j0 j1 (by omega)
    rw [h44]
    exact ⟨by omega, by omega, hq j.toNat (by omega), fun k k0 k1 => by omega⟩
  · rw [bg_0] at b
    omega
  · rw [bg_0] at j1
    have := (hs j.toNat (by omega)).1
    rw [show ((j.toNat : Nat) : Int) = j by omega] at this
    exact this
  · rw [bg_0] at j1
    have := (hs j.toNat (by omega)).2.1
    rw [show ((j.toNat : Nat) : Int) = j by omega] at this
    exact this
  · rw [bg_0] at j1
    have := (hs j.toNat (by omega)).2.2
    rw [show ((j.toNat : Nat) : Int) = j by omega] at this
    exact this
  · rw [bg_0] at j1
    rw [bg_28, bl_w gb j0 (by omega)]
    exact hw j.toNat (by omega)
theorem C_belt_n (h : CW M A n Q k I s D f) (hs : s ≤ 500) (hX : XZ X) (ha : B32 a) (hc : ¬ (0 ≤ a ∧ a ≤ s)) : ev true 278 0 0 [pR 1 0, pI (ii a)] [] M X = some (.inr 2, M, thX X) := by
  have e1 : M 1 1 = ii s := h.2.2.2.1.1
  obtain ⟨a1, a2⟩ := ha
  rw [q278_0, e1, i_0, ilt (by omega), ilt (by omega)]
  by_cases c1 : a < 0
  · rw [if_pos c1, q278_15, thT hX (by decide) (by decide)]
  · rw [if_neg c1, if_pos (by omega), q278_15, thT hX (by decide) (by decide)]
theorem CW.fault {g : Int} (h : CW M A n Q k I s D f) (hf : ∀ b, b ≠ 1 → (b < 5 ∨ 39 ≤ b) → M1 b = M b) (h1 : M1 1 1 = ii 0) : CW (upM M1 0 11 (ii g)) A n Q k I 0 D g := by
  obtain ⟨c1, c2, c3, c4, c5⟩ := h
  have fr : ∀ b, b ≠ 0 → b ≠ 1 → (b < 5 ∨ 39 ≤ b) → upM M1 0 11 (ii g) b = M b := fun b b0 b1 b2 => by rw [← hf b b1 b2]; funext y; exact up_n b0
  exact ⟨⟨PLv_k c1.1 (fun b q1 q2 _ _ => fr b (by omega) (by omega) (by omega)) SP.rf, STv_k c1.2.1 (fun b q1 q2 => fr b (by omega) (by omega) (by omega)) rfl, by rw [fr 83 (by omega) (by omega) (by omega)]; exact c1.2.2⟩, AC_k c2 (fun b q1 q2 => fr b (by omega) (by omega) (by omega)), CI_k c3 (by rw [up_d (by decide), hf 0 (by omega) (by omega)]) (fun b q1 q2 => fr b (by omega) (by omega) (by omega)), ⟨by rw [up_n (by decide), h1]; rfl, fun i hi => by omega⟩, by rw [up_s, if_pos rfl]⟩
theorem C_belt_f {g : Int} {p : Nat} (hb : BltO D m (.inr (g, p)) R cs f0 e0) (h : CW M A n Q k I s D f) (hm : m ≤ s) (hs : s ≤ 500) : ∃ M', ev true 278 0 0 [pR 1 0, pI (ii m)] [] M X = some (.inl (some (pI (ii (-10 - g)))), M', X) ∧ CW M' A n Q k I 0 D p ∧ ∀ b, 819 ≤ b → M' b = M b := by
  have e1 : M 1 1 = ii s := h.2.2.2.1.1
  obtain ⟨M1, a1, a2, a3, a4, a5⟩ := hb.1 M X (fun i hi => h.2.2.2.1.2 i (by omega))
  have g6 := a2.2.2.1
  have g5 := a2.2.2.2.1
  have g7 := a2.2.2.2.2.1
  refine ⟨upM M1 0 11 (ii p), ?_, h.fault a3 a4, fun b hb => by rw [← a3 b (by omega) (by omega)]; funext y; exact up_n (by omega)⟩
  rw [q278_0, e1, i_0, ltF (by omega), ltF (by omega), a1, kt0, q278_35, g7, up_n (show (1 : Nat) ≠ 0 by decide), g6, i_0, eqF (by omega), i_m10, ii_sub]
theorem C_belt_y (hb : BltO D m (.inl b') R cs f0 e0) (h : CW M A n Q k I s D f) (hm : m ≤ s) (hs : s ≤ 500) : LW (bgA R cs) ∧ ∃ M', ev true 278 0 0 [pR 1 0, pI (ii m)] [] M X = some (.inl (some (pI (ii (R 0)))), M', X) ∧ CW M' (bgA R cs) 0 Q k I 0 D (-1) ∧ ∀ b, 819 ≤ b → M' b = M b := by
  have e1 : M 1 1 = ii s := h.2.2.2.1.1
  obtain ⟨M1, a1, a2, a3, a4, a5⟩ := hb.1 M X (fun i hi => h.2.2.2.1.2 i (by omega))
  obtain ⟨hR, hL⟩ := hb.2.2 ⟨b', rfl⟩
  obtain ⟨pc, fv⟩ := a5 ⟨b', rfl⟩
  have g6 := a2.2.2.1
  have g7 := a2.2.2.2
  have hw := bg_LW fv hL
  refine ⟨hw, ?_⟩
  have h2 := h.fault (g := -1) a3 a4
  obtain ⟨M2, m2⟩ : ∃ M2, M2 = upM M1 0 11 (ii (-1)) := ⟨_, rfl⟩
  rw [← m2] at h2
  have f2 : ∀ b, b ≠ 0 → M2 b = M1 b := fun b b0 => by rw [m2]; funext y; exact up_n b0
  have p2 : PLv M2 5 (bgA R cs) := PLv_k (bg_PLv pc fv) (fun b q1 q2 _ _ => f2 b (by omega)) SP.rf
  obtain ⟨M3, b1, b2, b3, b4⟩ := S207v (X := X) p2 (bg_INV hR) hw pll49 pll5 (by omega)
  have h49 : M3 49 0 = ii (R 0) := b3.1
  obtain ⟨M4, c1, c2, c3, c4, c5, c6, c7, c8, c9, c10, c11, c12, c13⟩ := S208 (X := X) h49
  have st : STv M4 83 (bgA R cs) := by
    refine bg_STv hR c3 c5 c6 c7 c8 c9 c10 (fun i hi => ?_) c12 c13
    have g := hR.1
    obtain ⟨k1, k2, k3⟩ := c11 i (by omega)
    obtain ⟨-, -, -, -, -, r11, r13, r15, -⟩ := b2
    have r11 : M3 61 i = M2 17 i := r11 i (by omega)
    have r13 : M3 63 i = M2 19 i := r13 i (by omega)
    have r15 : M3 65 i = M2 21 i := r15 i (by omega)
    rw [k1, k2, k3, r11, r13, r15, f2 17 (by omega), f2 19 (by omega), f2 21 (by omega)]
    exact ⟨pc.2 (17, 3, 67, 10) (by decide) i hi, pc.2 (19, 3, 68, 10) (by decide) i hi, pc.2 (21, 3, 69, 10) (by decide) i hi⟩
  have hA : AC M4 n Q := AC_k h2.2.1 (fun b q1 q2 => by rw [c2 b (by omega), b4 b (by omega)])
  obtain ⟨M5, d1, d2, d3⟩ := S9 (X := X) hA
  have f5 : ∀ b, b ≠ 133 → (b < 49 ∨ 133 ≤ b) → M5 b = M2 b := fun b q1 q2 => by rw [d3 b q1, c2 b (by omega), b4 b (by omega)]
  have e49 : M5 49 0 = ii (R 0) := by rw [d3 49 (by decide), c2 49 (by omega)]; exact h49
  refine ⟨M5, ?_, ⟨⟨PLv_k b3 (fun b q1 q2 _ _ => by rw [d3 b (by omega), c2 b (by omega)]) SP.rf, STv_k st (fun b q1 q2 => d3 b (by omega)) rfl, by rw [d3 83 (by decide)]; exact c4⟩, d2, CI_k h2.2.2.1 (by rw [f5 0 (by decide) (by omega)]) (fun b q1 q2 => f5 b (by omega) (by omega)), CD0_k h2.2.2.2.1 (by rw [f5 1 (by decide) (by omega)]) (f5 3 (by decide) (by omega)), by rw [f5 0 (by decide) (by omega)]; exact h2.2.2.2.2⟩, fun b hb => ?_⟩
  · rw [q278_0, e1, i_0, ltF (by omega), ltF (by omega), a1, kt0, q278_35, g7, up_n (show (1 : Nat) ≠ 0 by decide), g6, i_0, eqT rfl, ← m2, b1, kt0, q278_81, c1, kt0, q278_92, d1, kt0, q278_99, e49]
  · rw [f5 b (by omega) (by omega), f2 b (by omega), a3 b (by omega) (by omega)]
theorem R_belt_n (h : RWx M A n Q k I s D f) (hz : ZW T A n Q k I s D f) (ha : B32 a) (hc : ¬ (0 ≤ a ∧ a ≤ s)) : ∃ M', ev true 306 0 0 [pR 13 819, pI (ii a), p0] [] M X = some (.inl (some (pI (ii 0))), M', X) ∧ RWx M' A n Q k I s D f ∧ (∀ b, b < 819 → M' b = M b) ∧ M' 819 7 = ii 1 := by
  have hs := hz.2.2.2.2.1
  have e1 : upM M 819 7 (ii 0) 819 17 = ii s := by rw [up_d (by decide)]; exact h.2.2.2.1.1
  obtain ⟨a1, a2⟩ := ha
  have go : ev true 306 0 17 [pR 13 819, pI (ii a), p0] [] (upM M 819 7 (ii 0)) X = some (.inl (some (pI (ii 0))), upM (upM M 819 7 (ii 0)) 819 7 (ii 1), X) := by
    rw [q306_17, i_1, q27_0, kb1, q306_22, i_0]
  refine ⟨upM (upM M 819 7 (ii 0)) 819 7 (ii 1), ?_, (h.u7 hz).u7 hz, fun b hb => by rw [fr7 b hb, fr7 b hb], st7⟩
  rw [q306_0, i_0, e1, ilt (by omega), ilt (by omega)]
  by_cases c1 : a < 0
  · rw [if_pos c1, go]
  · rw [if_neg c1, if_pos (by omega), go]
/-- the reference behind a text's end -/
theorem R_blt {g : Int} (h : RWx M A n Q k I s D f) (hz : ZW T A n Q k I s D f) (hb : BltO D m P R cs f0 e0) (hm : m ≤ s) : ∃ M2, ev true 306 0 0 [pR 13 819, pI (ii m), p0] [] M X = ev true 306 0 99 [pR 13 819, pI (ii m), p0] [pI (ii (faK P))] (upM (upM M2 819 17 (ii 0)) 819 25 (ii (faP P))) X ∧ RTP M2 D m P ∧ (∀ b, b ≠ 819 → b ≠ 821 → M2 b = M b) ∧ (∀ k, k < 18 ∨ k = 25 ∨ 26 < k → k ≠ 7 → M2 819 k = M 819 k) ∧ M2 819 7 = ii 0 ∧ (iF P → RVw M2 R ∧ TxR M2 D R f0 e0) := by
  have hs := hz.2.2.2.2.1
  have e1 : upM M 819 7 (ii 0) 819 17 = ii s := by rw [up_d (by decide)]; exact h.2.2.2.1.1
  obtain ⟨M1, a1, a2, a3⟩ := S21 (M := upM M 819 7 (ii 0)) (X := X) (v := 4)
  obtain ⟨M2, b1, b2, b3, b4, b5⟩ := hb.2.1 M1 X (fun i hi => by rw [a2 827 (by decide), up_n (by decide)]; exact h.2.2.2.1.2 i (by omega)) (fun z hz => a3 z (by omega))
  obtain ⟨M3, c1, c2⟩ := S48 (X := X) b2
  refine ⟨M2, ?_, b2, fun b q1 q2 => by rw [b3 b q1 q2, a2 b q2]; funext y; exact up_n q1, fun k q1 q2 => by rw [b4 k q1, a2 819 (by decide), up_d q2], by rw [b4 7 (by omega), a2 819 (by decide), up_s, if_pos rfl], b5⟩
  rw [q306_0, i_0, e1, ltF (by omega), ltF (by omega), i_4, a1, kb0, b1, q306_95, c1, kb1, c2]
theorem RWx.nw {g : Int} (h : RWx M A n Q k I s D f) (hz : ZW T A n Q k I s D f) (hs : RS M' B) (ha : AR M' m Q) (h5 : M' 819 5 = M 819 5) (h23 : M' 823 = M 823) (h17 : M' 819 17 = ii 0) (h25 : M' 819 25 = ii g) : RWx M' B m Q k I 0 D g :=
  ⟨hs, ha, RI_k h.2.2.1 (fun hk => (hz.2.2.2.1 hk).1) h5 h23, ⟨by rw [h17]; rfl, fun i hi => by omega⟩, h25⟩
theorem R_belt_f {g : Int} {p : Nat} (hb : BltO D m (.inr (g, p)) R cs f0 e0) (h : RWx M A n Q k I s D f) (hz : ZW T A n Q k I s D f) (hm : m ≤ s) : ∃ M', ev true 306 0 0 [pR 13 819, pI (ii m), p0] [] M X = some (.inl (some (pI (ii (-10 - g)))), M', X) ∧ RWx M' A n Q k I 0 D p ∧ (∀ b, b < 819 → M' b = M b) ∧ M' 819 7 = ii 0 := by
  obtain ⟨M2, a1, a2, a3, a4, a5, a6⟩ := R_blt (X := X) (g := g) h hz hb hm
  have g2 := a2.2.2.1
  have fr : ∀ b, b ≠ 819 → b ≠ 821 → upM (upM M2 819 17 (ii 0)) 819 25 (ii p) b = M b := fun b q1 q2 => by rw [← a3 b q1 q2]; funext y; rw [up_n q1, up_n q1]
  have fk : ∀ k, k < 17 → k ≠ 7 → upM (upM M2 819 17 (ii 0)) 819 25 (ii p) 819 k = M 819 k := fun k q1 q2 => by rw [up_d (by omega), up_d (by omega)]; exact a4 k (by omega) q2
  refine ⟨upM (upM M2 819 17 (ii 0)) 819 25 (ii p), ?_, h.nw hz (h.1.mv hz.1.1 (fun z _ _ => rr_at (fr 820 (by decide) (by decide))) (fk 8 (by omega) (by decide))) (AR_k h.2.1 (fun i hi => (hz.2.2.1 i hi).1.1) (fk 6 (by omega) (by decide)) (fr 824 (by decide) (by decide)) (fun z _ _ _ => rr_at (fr 820 (by decide) (by decide)))) (fk 5 (by omega) (by decide)) (fr 823 (by decide) (by decide)) (by rw [up_d (by decide), up_s, if_pos rfl]) (by rw [up_s, if_pos rfl]), fun b hb => fr b (by omega) (by omega), by rw [up_d (by decide), up_d (by decide)]; exact a5⟩
  rw [a1]
  show ev true 306 0 99 [pR 13 819, pI (ii m), p0] [pI (ii g)] _ X = _
  rw [q306_99, i_0, eqF (by omega), i_m10, ii_sub]
  rfl
theorem R_belt_y (hb : BltO D m (.inl b') R cs f0 e0) (h : RWx M A n Q k I s D f) (hz : ZW T A n Q k I s D f) (hm : m ≤ s) : ∃ M', ev true 306 0 0 [pR 13 819, pI (ii m), p0] [] M X = some (.inl (some (pI (ii (R 0)))), M', X) ∧ RWx M' (bgA R cs) 0 Q k I 0 D (-1) ∧ (∀ b, b < 819 → M' b = M b) ∧ M' 819 7 = ii 0 := by
  have hs := hz.2.2.2.2.1
  obtain ⟨M2, a1, a2, a3, a4, a5, a6⟩ := R_blt (X := X) (g := 0) h hz hb hm
  obtain ⟨hR, hL⟩ := hb.2.2 ⟨b', rfl⟩
  obtain ⟨rv, tx⟩ := a6 ⟨b', rfl⟩
  obtain ⟨M3, m3⟩ : ∃ M3, M3 = upM (upM M2 819 17 (ii 0)) 819 25 (ii (-1)) := ⟨_, rfl⟩
  have fr3 : ∀ b, b ≠ 819 → M3 b = M2 b := fun b q1 => by rw [m3]; funext y; rw [up_n q1, up_n q1]
  have fk3 : ∀ k, k ≠ 17 → k ≠ 25 → M3 819 k = M2 819 k := fun k q1 q2 => by rw [m3, up_d q2, up_d q1]
  obtain ⟨M4, b1, b2, b3⟩ := S38 (M := M3) (X := X) (n := 1434) (a := 820) (b := 821) ln820 ln821 (by decide)
  obtain ⟨M5, m5⟩ : ∃ M5, M5 = upM M4 819 6 (ii 0) := ⟨_, rfl⟩
  have fr5 : ∀ b, b ≠ 819 → M5 b = M4 b := fun b q1 => by rw [m5]; funext y; exact up_n q1
  have r5 : ∀ z : Nat, z < 1434 → M5 820 z = M2 821 z := fun z hz => by rw [fr5 820 (by decide), b3 z, if_pos hz, fr3 821 (by decide)]
  have fr : ∀ b, b ≠ 819 → b ≠ 820 → b ≠ 821 → M5 b = M b := fun b q1 q2 q3 => by rw [fr5 b q1, b2 b q2, fr3 b q1, a3 b q1 q3]
  have fk : ∀ k, k < 17 → k ≠ 7 → k ≠ 6 → M5 819 k = M 819 k := fun k q1 q2 q3 => by rw [m5, up_d q3, b2 819 (by decide), fk3 k (by omega) (by omega), a4 k (by omega) q2]
  have hr : ∀ z : Nat, z < 934 → M5 820 z = ii (R z) := fun z hz => by rw [r5 z (by omega)]; exact rv z hz
  have htx : TxM M5 D R f0 e0 := ⟨hr 10 (by decide), fun h9 i i1 i2 => by
    rcases hL with ⟨l1, -⟩ | ⟨l1, l2, g1, g2, -⟩
    · omega
    · rw [r5 _ (by omega)]; exact tx h9 i i1 i2⟩
  have hD : ∀ i, i < m → 0 ≤ D i ∧ D i < 256 := fun i hi => hz.2.2.2.2.2.1 i (by omega)
  have e0 : M5 820 0 = ii (R 0) := hr 0 (by decide)
  refine ⟨M5, ?_, h.nw hz ⟨bg_RR hR hr, bg_TXT hL (by omega) hD htx, bg_TXL hL (by omega) hD htx, (fk 8 (by omega) (by decide) (by decide)).trans h.1.2.2.2⟩ ⟨by rw [m5, up_s, if_pos rfl]; rfl, by omega, fun i hi => by omega⟩ (fk 5 (by omega) (by decide) (by decide)) (fr 823 (by decide) (by decide) (by decide)) ?_ ?_, fun b hb => fr b (by omega) (by omega) (by omega), ?_⟩
  · rw [a1]
    show ev true 306 0 99 [pR 13 819, pI (ii m), p0] [pI (ii 0)] (upM (upM M2 819 17 (ii 0)) 819 25 (ii (-1))) X = _
    rw [← m3, q306_99, i_0, eqT rfl, b1, kb0, q306_120, i_0, ← m5, S23, kb1, q306_129]
    show some ((Sum.inl (some (pI (M5 820 0))), M5, X) : PRs) = _
    rw [e0]
  · rw [m5, up_d (by decide), b2 819 (by decide), m3, up_d (by decide), up_s, if_pos rfl]
  · rw [m5, up_d (by decide), b2 819 (by decide), m3, up_s, if_pos rfl]
  · rw [m5, up_d (by decide), b2 819 (by decide), fk3 7 (by decide) (by decide)]; exact a5
theorem P_belt_y (hz : ZW T A n Q k I s D f) (h0 : CW M0 A n Q k I s D f) (hc : 0 ≤ a ∧ a ≤ s) : ∃ v B n' f', cA (fun M => CW M A n Q k I s D f) (fun M => CW M B n' Q k I 0 D f') 278 [pR 1 0, pI (ii a)] v ∧ rA (fun M => RWx M A n Q k I s D f) (fun M => RWx M B n' Q k I 0 D f') 306 [pR 13 819, pI (ii a), p0] v 0 ∧ ZW T B n' Q k I 0 D f' := by
  obtain ⟨m, rfl⟩ := natOf hc.1
  have hs := hz.2.2.2.2.1
  have hD : ∀ i, i < m → 0 ≤ D i ∧ D i < 256 := fun i hi => hz.2.2.2.2.2.1 i (by omega)
  have hT : 0 ≤ T := by have g := hz.1.1.1; omega
  obtain ⟨P, R, cs, f0, e0, hb⟩ := belt_text (D := D) (n := m) (by omega) hD
  cases P with
  | inr q =>
    obtain ⟨g, p⟩ := q
    refine ⟨ii (-10 - g), A, n, p, fun M X h => C_belt_f hb h (by omega) hs, fun M X h => R_belt_f hb h hz (by omega), hz.1, hz.2.1, hz.2.2.1, hz.2.2.2.1, by omega, fun i hi => by omega, by omega, ?_⟩
    obtain ⟨M1, a1, a2, -⟩ := hb.1 M0 (0, 0, 0, 0, 0, 0) (fun i hi => h0.2.2.2.1.2 i (by omega))
    have := a2.2.2.2.2.2
    omega
  | inl b' =>
    obtain ⟨hR, hL⟩ := hb.2.2 ⟨b', rfl⟩
    obtain ⟨hw, -⟩ := C_belt_y (X := (0, 0, 0, 0, 0, 0)) hb h0 (by omega) hs
    exact ⟨ii (R 0), bgA R cs, 0, -1, fun M X h => (C_belt_y hb h (by omega) hs).2, fun M X h => R_belt_y hb h hz (by omega), (bg_PW hR hw).le hT, by omega, fun i hi => by omega, hz.2.2.2.1, by omega, fun i hi => by omega, by omega, by omega⟩
theorem P_belt_n (hz : ZW T A n Q k I s D f) (ha : B32 a) (hc : ¬ (0 ≤ a ∧ a ≤ s)) : cT (fun M => CW M A n Q k I s D f) 278 [pR 1 0, pI (ii a)] 2 ∧ rA (fun M => RWx M A n Q k I s D f) (fun M => RWx M A n Q k I s D f) 306 [pR 13 819, pI (ii a), p0] (ii 0) 1 :=
  ⟨fun M X h hX => C_belt_n h hz.2.2.2.2.1 hX ha hc, fun M X h => R_belt_n h hz ha hc⟩
end BELT
