/-! tokens, numbers and words of a text: the reference -/
section RTO
set_option maxRecDepth 100000
variable {z y a b c d f lo hi v N : Int} {M M' M0 M1 M2 : Mem} {X : PX} {n m i e p t : Nat} {D : Nat → Int} {P : PS}
def RB (M : Mem) (D : Nat → Int) (n : Nat) : Prop := n ≤ 500 ∧ M 819 18 = ii n ∧ ∀ i, i < n → M 827 i = ii (D i) ∧ 0 ≤ D i ∧ D i < 256
def RT (M : Mem) (D : Nat → Int) (n : Nat) : PS → Prop
  | .inl b => b ≤ n ∧ M 819 21 = ii b ∧ M 819 19 = ii (tE D n b) ∧ M 819 22 = ii (tE D n b) ∧ M 819 20 = ii (tK D n b) ∧ M 819 23 = ii 0
  | .inr (f, p) => M 819 23 = ii f ∧ (1 ≤ f ∧ f ≤ 5) ∧ M 819 24 = ii p ∧ p ≤ n
def RTP (M : Mem) (D : Nat → Int) (n : Nat) (P : PS) : Prop := RB M D n ∧ RT M D n P
def FrP (M M' : Mem) : Prop := (∀ b, b ≠ 819 → M' b = M b) ∧ ∀ k, k < 19 ∨ 24 < k → M' 819 k = M 819 k
theorem FrP.rf : FrP M M := ⟨fun _ _ => rfl, fun _ _ => rfl⟩
theorem FrP.tr {M1 M2 M3 : Mem} (h1 : FrP M1 M2) (h2 : FrP M2 M3) : FrP M1 M3 := ⟨fun b h => (h2.1 b h).trans (h1.1 b h), fun k h => (h2.2 k h).trans (h1.2 k h)⟩
theorem RB.fr (h : RB M D n) (hf : FrP M M') : RB M' D n := ⟨h.1, (hf.2 18 (by omega)).trans h.2.1, fun i hi => by rw [hf.1 827 (by omega)]; exact h.2.2 i hi⟩
theorem RTP.kp (h : RTP M D n P) (h1 : ∀ k, 18 ≤ k → k ≤ 24 → M' 819 k = M 819 k) (h3 : M' 827 = M 827) : RTP M' D n P := by
  obtain ⟨⟨a1, a2, a3⟩, b⟩ := h
  refine ⟨⟨a1, (h1 18 (by omega) (by omega)).trans a2, fun i hi => by rw [h3]; exact a3 i hi⟩, ?_⟩
  cases P with
  | inl b' =>
    obtain ⟨b1, b2, b3, b4, b5, b6⟩ := b
    exact ⟨b1, (h1 21 (by omega) (by omega)).trans b2, (h1 19 (by omega) (by omega)).trans b3, (h1 22 (by omega) (by omega)).trans b4, (h1 20 (by omega) (by omega)).trans b5, (h1 23 (by omega) (by omega)).trans b6⟩
  | inr q =>
    obtain ⟨b1, b2, b3, b4⟩ := b
    exact ⟨(h1 23 (by omega) (by omega)).trans b1, b2, (h1 24 (by omega) (by omega)).trans b3, b4⟩
def btI (D : Nat → Int) (n i : Nat) : Int := if i < n then D i else -1
theorem ln827 : ln 827 = 500 := by decide +kernel
theorem S45 (hb : RB M D n) (hi : i ≤ n) : ev true 45 0 0 [pR 13 819, pI (ii i)] [] M X = some (.inl (some (pI (ii (btI D n i)))), M, X) := by
  have h500 := hb.1
  rw [q45_0, hb.2.1, ilt (by omega)]
  unfold btI
  by_cases c : i < n
  · rw [if_pos (by omega), if_pos c, inbT (by rw [ln827]; omega), ii_nat (by omega) (by omega), show ((i : Int)).toNat = i by omega, (hb.2.2 i c).1, q45_18]
  · rw [if_neg (by omega), if_neg c, ii_m1, q45_18]
theorem bt_in (hb : RB M D n) (i : Nat) : -1 ≤ btI D n i ∧ btI D n i < 256 := by
  unfold btI
  by_cases c : i < n
  · rw [if_pos c]; have := hb.2.2 i c; omega
  · rw [if_neg c]; omega
theorem S33 (h : -1 ≤ c ∧ c < 256) : ev true 33 0 0 [pI (ii c)] [] M X = some (.inl (some (pI (bI (decide (97 ≤ c ∧ c ≤ 122))))), M, X) := by
  rw [q33_0, i_97, i_122, ilt (by omega), ilt (by omega), q33_16, i_0, i_1, q33_17, q33_17, rk0, rk1]
  by_cases c1 : c < 97
  · rw [if_pos c1, decide_eq_false (by omega)]; rfl
  · rw [if_neg c1]
    by_cases c2 : 122 < c
    · rw [if_pos c2, decide_eq_false (by omega)]; rfl
    · rw [if_neg c2, decide_eq_true (by omega)]; rfl
theorem S32x (h : -1 ≤ c ∧ c < 256) : ev true 32 0 0 [pI (ii c)] [] M X = some (.inl (some (pI (bI (decide (48 ≤ c ∧ c ≤ 57))))), M, X) := by
  rw [q32_0, i_48, i_57, ilt (by omega), ilt (by omega), q32_16, i_0, i_1, q32_17, q32_17, rk0, rk1]
  by_cases c1 : c < 48
  · rw [if_pos c1, decide_eq_false (by omega)]; rfl
  · rw [if_neg c1]
    by_cases c2 : 57 < c
    · rw [if_pos c2, decide_eq_false (by omega)]; rfl
    · rw [if_neg c2, decide_eq_true (by omega)]; rfl
theorem RB.k (hb : RB M0 D n) (h1 : ∀ b, b ≠ 819 → M b = M0 b) (h2 : M 819 18 = M0 819 18) : RB M D n := ⟨hb.1, h2.trans hb.2.1, fun i hi => by rw [h1 827 (by decide)]; exact hb.2.2 i hi⟩
theorem up819 {k : Nat} {v : Int32} (h1 : ∀ b, b ≠ 819 → M b = M0 b) : ∀ b, b ≠ 819 → upM M 819 k v b = M0 b := fun b h => by rw [← h1 b h]; funext y; exact up_n h
theorem en_s {k : Int} (h : kdC (D i) = k) : enB D k (m + 1) i = enB D k m (i + 1) := by
  show (if _ then _ else _) = _
  rw [if_pos h]
/-- blanks are passed -/
theorem S131a {z1 : PV} (hb : RB M0 D n) : ∀ (m i : Nat) (M : Mem), i + m = n → M 819 19 = ii i → (∀ b, b ≠ 819 → M b = M0 b) → (∀ k, k ≠ 19 → k ≠ 21 → M 819 k = M0 819 k) → ∃ M', ev true 131 0 8 [pR 13 819, z1] [pI (ii (btI D n i))] M X = ev true 131 0 55 [pR 13 819, z1] [pI (ii (btI D n (skB D m i)))] M' X ∧ M' 819 19 = ii (skB D m i) ∧ M' 819 21 = ii (skB D m i) ∧ (∀ b, b ≠ 819 → M' b = M0 b) ∧ ∀ k, k ≠ 19 → k ≠ 21 → M' 819 k = M0 819 k := by
  have h500 := hb.1
  intro m
  induction m with
  | zero =>
    intro i M h1 h4 h5 h6
    have hM := hb.k h5 (h6 18 (by decide) (by decide))
    have hM2 : RB (upM M 819 21 (ii i)) D n := hb.k (up819 h5) (by rw [up_d (by decide)]; exact h6 18 (by decide) (by decide))
    have eb : btI D n i = -1 := by unfold btI; rw [if_neg (by omega)]
    refine ⟨upM M 819 21 (ii i), ?_, by rw [up_d (by decide)]; exact h4, by rw [up_s, if_pos rfl]; rfl, up819 h5, fun k k1 k2 => by rw [up_d k2]; exact h6 k k1 k2⟩
    rw [q131_8, eb, i_32, eqF (by omega), h4, S45 hM (by omega), kb1, q131_21, eb, i_10, eqF (by omega), h4, up_d (show (19 : Nat) ≠ 21 by decide), h4, S45 hM2 (by omega), kb1]
    rfl
  | succ m ih =>
    intro i M h1 h4 h5 h6
    have hM := hb.k h5 (h6 18 (by decide) (by decide))
    have hM2 : RB (upM M 819 21 (ii i)) D n := hb.k (up819 h5) (by rw [up_d (by decide)]; exact h6 18 (by decide) (by decide))
    have hM3 : RB (upM M 819 19 (ii (i + 1 : Nat))) D n := hb.k (up819 h5) (by rw [up_d (by decide)]; exact h6 18 (by decide) (by decide))
    have eb : btI D n i = D i := by unfold btI; rw [if_pos (by omega)]
    obtain ⟨-, d1, d2⟩ := hb.2.2 i (by omega)
    have go : ∃ M', ev true 131 0 26 [pR 13 819, z1] [] M X = ev true 131 0 55 [pR 13 819, z1] [pI (ii (btI D n (skB D m (i + 1))))] M' X ∧ M' 819 19 = ii (skB D m (i + 1)) ∧ M' 819 21 = ii (skB D m (i + 1)) ∧ (∀ b, b ≠ 819 → M' b = M0 b) ∧ ∀ k, k ≠ 19 → k ≠ 21 → M' 819 k = M0 819 k := by
      obtain ⟨M', a1, a2⟩ := ih (i + 1) (upM M 819 19 (ii (i + 1 : Nat))) (by omega) (by rw [up_s, if_pos rfl]) (up819 h5) (fun k k1 k2 => by rw [up_d k1]; exact h6 k k1 k2)
      refine ⟨M', ?_, a2⟩
      rw [q131_26, h4, i_1, ii_add, show ((i : Int) + 1) = ((i + 1 : Nat) : Int) by omega, up_s, if_pos rfl, S45 hM3 (by omega), kb1, a1]
    rw [q131_8, eb, i_32, ieq (by omega)]
    unfold skB
    by_cases c1 : D i = 32
    · rw [if_pos c1, if_pos (Or.inl c1)]
      exact go
    · rw [if_neg c1, h4, S45 hM (by omega), kb1, q131_21, eb, i_10, ieq (by omega)]
      by_cases c2 : D i = 10
      · rw [if_pos c2, if_pos (Or.inr c2)]
        exact go
      · rw [if_neg c2, if_neg (by omega), h4, up_d (show (19 : Nat) ≠ 21 by decide), h4, S45 hM2 (by omega), kb1, eb]
        exact ⟨_, rfl, by rw [up_d (by decide)]; exact h4, by rw [up_s, if_pos rfl], up819 h5, fun k k1 k2 => by rw [up_d k2]; exact h6 k k1 k2⟩
theorem S131b {z1 : PV} (hb : RB M0 D n) : ∀ (m i : Nat) (M : Mem), i + m = n → M 819 19 = ii i → (∀ b, b ≠ 819 → M b = M0 b) → (∀ k, k ≠ 19 → M 819 k = M0 819 k) → ∃ M', ev true 131 0 76 [pR 13 819, z1] [] M X = ev true 131 0 168 [pR 13 819, z1] [] M' X ∧ M' 819 19 = ii (enB D 1 m i) ∧ M' 819 20 = ii 1 ∧ (∀ b, b ≠ 819 → M' b = M0 b) ∧ ∀ k, k ≠ 19 → k ≠ 20 → M' 819 k = M0 819 k := by
  have h500 := hb.1
  intro m
  induction m with
  | zero =>
    intro i M h1 h4 h5 h6
    have hM := hb.k h5 (h6 18 (by decide))
    have eb : btI D n i = -1 := by unfold btI; rw [if_neg (by omega)]
    refine ⟨upM M 819 20 (ii 1), ?_, by rw [up_d (by decide)]; exact h4, by rw [up_s, if_pos rfl], up819 h5, fun k k1 k2 => by rw [up_d k2]; exact h6 k k1⟩
    rw [q131_76, h4, S45 hM (by omega), kb1, q131_84, eb, S33 (by omega), kb1, q131_87, i_0, bIT, decide_eq_false (by omega), cond_false, i_1]
  | succ m ih =>
    intro i M h1 h4 h5 h6
    have hM := hb.k h5 (h6 18 (by decide))
    have eb : btI D n i = D i := by unfold btI; rw [if_pos (by omega)]
    obtain ⟨-, d1, d2⟩ := hb.2.2 i (by omega)
    rw [q131_76, h4, S45 hM (by omega), kb1, q131_84, eb, S33 (by omega), kb1, q131_87, i_0, bIT]
    unfold enB
    by_cases c : 97 ≤ D i ∧ D i ≤ 122
    · have ek : kdC (D i) = 1 := by unfold kdC; rw [if_pos c]
      obtain ⟨M', a1, a2⟩ := ih (i + 1) (upM M 819 19 (ii (i + 1 : Nat))) (by omega) (by rw [up_s, if_pos rfl]) (up819 h5) (fun k k1 => by rw [up_d k1]; exact h6 k k1)
      rw [decide_eq_true c, cond_true, if_pos ek, h4, i_1, ii_add]
      exact ⟨M', a1, a2⟩
    · have ek : kdC (D i) ≠ 1 := by unfold kdC; rw [if_neg c]; split <;> omega
      rw [decide_eq_false c, cond_false, if_neg ek, i_1]
      exact ⟨_, rfl, by rw [up_d (by decide)]; exact h4, by rw [up_s, if_pos rfl], up819 h5, fun k k1 k2 => by rw [up_d k2]; exact h6 k k1⟩
theorem S131c {z1 : PV} (hb : RB M0 D n) : ∀ (m i : Nat) (M : Mem), i + m = n → M 819 19 = ii i → (∀ b, b ≠ 819 → M b = M0 b) → (∀ k, k ≠ 19 → M 819 k = M0 819 k) → ∃ M', ev true 131 0 118 [pR 13 819, z1] [] M X = ev true 131 0 168 [pR 13 819, z1] [] M' X ∧ M' 819 19 = ii (enB D 2 m i) ∧ M' 819 20 = ii 2 ∧ (∀ b, b ≠ 819 → M' b = M0 b) ∧ ∀ k, k ≠ 19 → k ≠ 20 → M' 819 k = M0 819 k := by
  have h500 := hb.1
  intro m
  induction m with
  | zero =>
    intro i M h1 h4 h5 h6
    have hM := hb.k h5 (h6 18 (by decide))
    have eb : btI D n i = -1 := by unfold btI; rw [if_neg (by omega)]
    refine ⟨upM M 819 20 (ii 2), ?_, by rw [up_d (by decide)]; exact h4, by rw [up_s, if_pos rfl], up819 h5, fun k k1 k2 => by rw [up_d k2]; exact h6 k k1⟩
    rw [q131_118, h4, S45 hM (by omega), kb1, q131_126, eb, S32x (by omega), kb1, q131_129, i_0, bIT, decide_eq_false (by omega), cond_false, i_2]
  | succ m ih =>
    intro i M h1 h4 h5 h6
    have hM := hb.k h5 (h6 18 (by decide))
    have eb : btI D n i = D i := by unfold btI; rw [if_pos (by omega)]
    obtain ⟨-, d1, d2⟩ := hb.2.2 i (by omega)
    rw [q131_118, h4, S45 hM (by omega), kb1, q131_126, eb, S32x (by omega), kb1, q131_129, i_0, bIT]
    unfold enB
    by_cases c : 48 ≤ D i ∧ D i ≤ 57
    · have ek : kdC (D i) = 2 := by unfold kdC; rw [if_neg (by omega), if_pos c]
      obtain ⟨M', a1, a2⟩ := ih (i + 1) (upM M 819 19 (ii (i + 1 : Nat))) (by omega) (by rw [up_s, if_pos rfl]) (up819 h5) (fun k k1 => by rw [up_d k1]; exact h6 k k1)
      rw [decide_eq_true c, cond_true, if_pos ek, h4, i_1, ii_add]
      exact ⟨M', a1, a2⟩
    · have ek : kdC (D i) ≠ 2 := by
        intro w
        exact c (kd_2 w)
      rw [decide_eq_false c, cond_false, if_neg ek, i_2]
      exact ⟨_, rfl, by rw [up_d (by decide)]; exact h4, by rw [up_s, if_pos rfl], up819 h5, fun k k1 k2 => by rw [up_d k2]; exact h6 k k1⟩
def RTk (M : Mem) (D : Nat → Int) (n b : Nat) : Prop := b ≤ n ∧ M 819 21 = ii b ∧ M 819 19 = ii (tE D n b) ∧ M 819 22 = ii (tE D n b) ∧ M 819 20 = ii (tK D n b)
theorem S131 (hb : RB M D n) (he : e ≤ n) (h5 : M 819 19 = ii e) : ∃ M', ev true 131 0 0 [pR 13 819, p0] [] M X = some (.inl none, M', X) ∧ RTk M' D n (bgT D n e) ∧ FrP M M' ∧ M' 819 23 = M 819 23 ∧ M' 819 24 = M 819 24 := by
  have h500 := hb.1
  have hg := bg_in (D := D) he
  obtain ⟨M1, a1, a2, a3, a4, a5⟩ := S131a (X := X) (z1 := p0) hb (n - e) e M (by omega) h5 (fun _ _ => rfl) (fun _ _ _ => rfl)
  have a1 : ev true 131 0 8 [pR 13 819, p0] [pI (ii (btI D n e))] M X = ev true 131 0 55 [pR 13 819, p0] [pI (ii (btI D n (bgT D n e)))] M1 X := a1
  have a2 : M1 819 19 = ii (bgT D n e) := a2
  have a3 : M1 819 21 = ii (bgT D n e) := a3
  have hM1 : RB M1 D n := hb.k a4 (a5 18 (by decide) (by decide))
  have pre : ev true 131 0 0 [pR 13 819, p0] [] M X = ev true 131 0 55 [pR 13 819, p0] [pI (ii (btI D n (bgT D n e)))] M1 X := by
    rw [q131_0, h5, S45 hb he, kb1, a1]
  -- the end, alike for all kinds
  have fin : ∀ (M2 : Mem) (z1 : PV), M2 819 19 = ii (tE D n (bgT D n e)) → M2 819 20 = ii (tK D n (bgT D n e)) → (∀ b, b ≠ 819 → M2 b = M1 b) → (∀ k, k ≠ 19 → k ≠ 20 → M2 819 k = M1 819 k) → ∃ M', ev true 131 0 168 [pR 13 819, z1] [] M2 X = some (.inl none, M', X) ∧ RTk M' D n (bgT D n e) ∧ FrP M M' ∧ M' 819 23 = M 819 23 ∧ M' 819 24 = M 819 24 := by
    intro M2 z1 h1 h2 h3 h4
    refine ⟨_, q131_168 z1 M2 X, ⟨hg.2.1, ?_, ?_, ?_, ?_⟩, ⟨fun b h => ?_, fun k h => ?_⟩, ?_, ?_⟩
    · rw [up_d (by decide), h4 21 (by decide) (by decide)]; exact a3
    · rw [up_d (by decide)]; exact h1
    · rw [up_s, if_pos rfl]; exact h1
    · rw [up_d (by decide)]; exact h2
    · rw [up819 h3 b h, a4 b h]
    · rw [up_d (by omega), h4 k (by omega) (by omega), a5 k (by omega) (by omega)]
    · rw [up_d (by decide), h4 23 (by decide) (by decide), a5 23 (by decide) (by decide)]
    · rw [up_d (by decide), h4 24 (by decide) (by decide), a5 24 (by decide) (by decide)]
  rw [pre]
  by_cases c : bgT D n e < n
  · obtain ⟨-, d1, d2⟩ := hb.2.2 (bgT D n e) c
    have eb : btI D n (bgT D n e) = D (bgT D n e) := by unfold btI; rw [if_pos c]
    rw [q131_55, eb, ii_m1, eqF (by omega), S33 (by omega), kb1, q131_73, i_0, bIT]
    by_cases c1 : 97 ≤ D (bgT D n e) ∧ D (bgT D n e) ≤ 122
    · have ek : kdC (D (bgT D n e)) = 1 := by unfold kdC; rw [if_pos c1]
      obtain ⟨M2, b1, b2, b3, b4, b5⟩ := S131b (X := X) (z1 := pI (ii (D (bgT D n e)))) hM1 (n - bgT D n e) (bgT D n e) M1 (by omega) a2 (fun _ _ => rfl) (fun _ _ => rfl)
      rw [decide_eq_true c1, cond_true, b1]
      refine fin M2 _ ?_ ?_ b4 (fun k k1 k2 => b5 k k1 k2)
      · rw [b2]
        unfold tE
        rw [if_pos c, if_neg (by omega), ek, show n - bgT D n e = (n - (bgT D n e + 1)) + 1 by omega]
        rw [en_s ek]
      · rw [b3]; unfold tK; rw [if_pos c, ek]
    · rw [decide_eq_false c1, cond_false, S32x (by omega), kb1, q131_115, i_0, bIT]
      by_cases c2 : 48 ≤ D (bgT D n e) ∧ D (bgT D n e) ≤ 57
      · have ek : kdC (D (bgT D n e)) = 2 := by unfold kdC; rw [if_neg c1, if_pos c2]
        obtain ⟨M2, b1, b2, b3, b4, b5⟩ := S131c (X := X) (z1 := pI (ii (D (bgT D n e)))) hM1 (n - bgT D n e) (bgT D n e) M1 (by omega) a2 (fun _ _ => rfl) (fun _ _ => rfl)
        rw [decide_eq_true c2, cond_true, b1]
        refine fin M2 _ ?_ ?_ b4 (fun k k1 k2 => b5 k k1 k2)
        · rw [b2]
          unfold tE
          rw [if_pos c, if_neg (by omega), ek, show n - bgT D n e = (n - (bgT D n e + 1)) + 1 by omega]
          rw [en_s ek]
        · rw [b3]; unfold tK; rw [if_pos c, ek]
      · have ek : kdC (D (bgT D n e)) = 3 := by unfold kdC; rw [if_neg c1, if_neg c2]
        rw [decide_eq_false c2, cond_false, a2, i_1, ii_add, i_3]
        refine fin _ _ ?_ ?_ (up819 (up819 (fun _ _ => rfl))) (fun k k1 k2 => by rw [up_d k2, up_d k1])
        · rw [up_d (by decide), up_s, if_pos rfl]
          unfold tE
          rw [if_pos c, if_pos ek]
          rfl
        · rw [up_s, if_pos rfl]; unfold tK; rw [if_pos c, ek]
  · have eb : btI D n (bgT D n e) = -1 := by unfold btI; rw [if_neg c]
    rw [q131_55, eb, ii_m1, eqT rfl, i_0]
    refine fin _ _ ?_ ?_ (up819 (fun _ _ => rfl)) (fun k k1 k2 => by rw [up_d k2])
    · rw [up_d (by decide), a2, te_ge c]
    · rw [up_s, if_pos rfl]; unfold tK; rw [if_neg c]
theorem S46 (h : RTP M D n P) (hc : 1 ≤ c ∧ c ≤ 5) : ∃ M', ev true 46 0 0 [pR 13 819, pI (ii c)] [] M X = some (.inl none, M', X) ∧ RTP M' D n (failS c P) ∧ FrP M M' := by
  obtain ⟨hb, ht⟩ := h
  cases P with
  | inl b =>
    obtain ⟨b1, b2, b3, b4, b5, b6⟩ := ht
    refine ⟨upM (upM M 819 23 (ii c)) 819 24 (ii b), ?_, ⟨hb.k (up819 (up819 (fun _ _ => rfl))) (by rw [up_d (by decide), up_d (by decide)]), by rw [up_d (by decide), up_s, if_pos rfl], hc, by rw [up_s, if_pos rfl], b1⟩, up819 (up819 (fun _ _ => rfl)), fun k h => by rw [up_d (by omega), up_d (by omega)]⟩
    rw [q46_0, b6, i_0, eqT rfl, up_d (show (21 : Nat) ≠ 23 by decide), b2]
  | inr q =>
    obtain ⟨f, p⟩ := q
    obtain ⟨h1, h2, h3, h4⟩ := ht
    exact ⟨M, by rw [q46_0, h1, i_0, eqF (by omega)], ⟨hb, h1, h2, h3, h4⟩, FrP.rf⟩
theorem S192 (h : RTP M D n P) : ∃ M', ev true 192 0 0 [pR 13 819] [] M X = some (.inl none, M', X) ∧ RTP M' D n (nextS D n P) ∧ FrP M M' := by
  obtain ⟨hb, ht⟩ := h
  cases P with
  | inl b =>
    obtain ⟨b1, b2, b3, b4, b5, b6⟩ := ht
    obtain ⟨M', a1, ⟨a2, a3, a4, a5, a6⟩, a7, a8, a9⟩ := S131 (X := X) hb (te_le (D := D) b1).2 b3
    exact ⟨M', by rw [q192_0, b6, i_0, eqT rfl, a1, kb0, q192_11], ⟨hb.fr a7, a2, a3, a4, a5, a6, a8.trans b6⟩, a7⟩
  | inr q =>
    obtain ⟨f, p⟩ := q
    obtain ⟨h1, h2, h3, h4⟩ := ht
    exact ⟨M, by rw [q192_0, h1, i_0, eqF (by omega), q192_11], ⟨hb, h1, h2, h3, h4⟩, FrP.rf⟩
def sgR (D : Nat → Int) (n : Nat) (c : Int) : PS → Bool
  | .inl b => sgB D n b c
  | .inr _ => false
theorem sgR_l {b : Nat} : sgR D n c (.inl b) = sgB D n b c := rfl
theorem S47 (h : RTP M D n P) (hc : 0 ≤ c ∧ c < 256) : ev true 47 0 0 [pR 13 819, pI (ii c)] [] M X = some (.inl (some (pI (bI (sgR D n c P)))), M, X) := by
  obtain ⟨hb, ht⟩ := h
  have h500 := hb.1
  cases P with
  | inl b =>
    obtain ⟨b1, b2, b3, b4, b5, b6⟩ := ht
    have hk := tk_in (D := D) (n := n) b
    rw [sgR_l]
    unfold sgB
    rw [q47_0, b6, i_0, eqT rfl, b5, i_3, ieq (by omega)]
    by_cases c1 : tK D n b = 3
    · obtain ⟨c2, -⟩ := tk_lt (D := D) (n := n) (b := b) (by omega)
      obtain ⟨d0, d1, d2⟩ := hb.2.2 b c2
      rw [if_pos c1, b2, inbT (by rw [ln827]; omega), ii_nat (by omega) (by omega), show ((b : Int)).toNat = b by omega, d0, ieq (by omega)]
      by_cases c3 : D b = c
      · rw [if_pos c3, i_1, q47_33, rk1, decide_eq_true ⟨c1, c3⟩]; rfl
      · rw [if_neg c3, q47_32, i_0, q47_33, rk0, decide_eq_false (fun z => c3 z.2)]; rfl
    · rw [if_neg c1, q47_32, i_0, q47_33, rk0, decide_eq_false (fun z => c1 z.1)]; rfl
  | inr q =>
    obtain ⟨f, p⟩ := q
    obtain ⟨h1, h2, h3, h4⟩ := ht
    rw [q47_0, h1, i_0, eqF (by omega), q47_32, i_0, q47_33, rk0]; rfl
theorem S219 (h : RTP M D n P) (hc : 0 ≤ c ∧ c < 256) : ∃ M', ev true 219 0 0 [pR 13 819, pI (ii c)] [] M X = some (.inl none, M', X) ∧ RTP M' D n (signS D n c P) ∧ FrP M M' := by
  rw [q219_0, S47 h hc, kb1, q219_5, i_0, bIT]
  cases hs : sgR D n c P with
  | true =>
    obtain ⟨M', a1, a2, a3⟩ := S192 (X := X) h
    refine ⟨M', by rw [cond_true, q219_13, a1, kb0, q219_17], ?_, a3⟩
    cases P with
    | inl b => have hs : sgB D n b c = true := hs; show RTP M' D n (bif sgB D n b c then .inl (nxD D n b) else .inr (1, b)); rw [hs]; exact a2
    | inr q => exact a2
  | false =>
    obtain ⟨M1, b1, b2, b3⟩ := S46 (X := X) h (c := 1) (by omega)
    obtain ⟨M', a1, a2, a3⟩ := S192 (X := X) b2
    refine ⟨M', by rw [cond_false, i_1, b1, kb0, q219_13, a1, kb0, q219_17], ?_, b3.tr a3⟩
    cases P with
    | inl b => have hs : sgB D n b c = false := hs; show RTP M' D n (bif sgB D n b c then .inl (nxD D n b) else .inr (1, b)); rw [hs]; exact a2
    | inr q => exact a2
/-- a number, not yet passed -/
def herS (D : Nat → Int) (n : Nat) (lo hi : Int) : PS → PS
  | .inl b => if tK D n b = 2 then (if nuV D n b < lo ∨ hi < nuV D n b then .inr (2, b) else .inl b) else .inr (1, b)
  | .inr q => .inr q
theorem herS_l {b : Nat} : herS D n lo hi (.inl b) = if tK D n b = 2 then (if nuV D n b < lo ∨ hi < nuV D n b then .inr (2, b) else .inl b) else .inr (1, b) := rfl
theorem her_nx (P : PS) : nextS D n (herS D n lo hi P) = numS D n lo hi P := by
  cases P with
  | inl b =>
    show nextS D n (if _ then _ else _) = if _ then _ else _
    split
    · split <;> rfl
    · rfl
  | inr q => rfl
theorem S132l {b : Nat} {x1 x2 : Int32} (hb : RB M D n) (h23 : M 819 23 = ii 0) (h22 : M 819 22 = ii e) (he : e ≤ n) : ∀ (m i : Nat) (v : Int), i + m = e → (∀ j, i ≤ j → j < e → 48 ≤ D j ∧ D j ≤ 57) → 0 ≤ v ∧ v ≤ 1000000 → ∃ z4, ev true 132 0 28 [pR 13 819, pI x1, pI x2, pI (ii v), pI (ii i)] [] M X = ev true 132 0 72 [pR 13 819, pI x1, pI x2, pI (ii (nuF D m i v)), z4] [] M X := by
  have h500 := hb.1
  intro m
  induction m with
  | zero =>
    intro i v h1 h2 h3
    exact ⟨pI (ii i), by rw [q132_28, h23, i_0, eqT rfl, h22, ltF (by omega)]; rfl⟩
  | succ m ih =>
    intro i v h1 h2 h3
    obtain ⟨d1, d2⟩ := h2 i (Nat.le_refl _) (by omega)
    obtain ⟨d0, -, -⟩ := hb.2.2 i (by omega)
    obtain ⟨z4, hh⟩ := ih (i + 1) (if 1000000 < v * 10 + D i - 48 then 1000000 else v * 10 + D i - 48) (by omega) (fun j j1 j2 => h2 j (by omega) j2) (by split <;> omega)
    refine ⟨z4, ?_⟩
    rw [q132_28, h23, i_0, eqT rfl, h22, ltT (by omega), inbT (by rw [ln827]; omega), ii_nat (by omega) (by omega), show ((i : Int)).toNat = i by omega, d0, i_10, ii_mul, ii_add, i_48, ii_sub, i_1000000, q132_65, i_1, ii_add]
    have e1 : (if ii (10 * v + D i - 48) < ii 1000000 then ii (10 * v + D i - 48) else ii 1000000) = ii (if 1000000 < v * 10 + D i - 48 then 1000000 else v * 10 + D i - 48) := by
      rw [ilt (by omega)]
      by_cases k : 10 * v + D i - 48 < 1000000
      · rw [if_pos k, if_neg (by omega), Int.mul_comm]
      · rw [if_neg k]
        by_cases k2 : 1000000 < v * 10 + D i - 48
        · rw [if_pos k2]
        · rw [if_neg k2, show v * 10 + D i - 48 = 1000000 by omega]
    rw [e1]
    exact hh
theorem S132 (h : RTP M D n P) (hl : -2147483648 ≤ lo ∧ lo < 2147483648) (hh : -2147483648 ≤ hi ∧ hi < 2147483648) : ∃ M' v, ev true 132 0 0 [pR 13 819, pI (ii lo), pI (ii hi), p0, p0] [] M X = some (.inl (some (pI (ii v))), M', X) ∧ RTP M' D n (herS D n lo hi P) ∧ FrP M M' ∧ (0 ≤ v ∧ v ≤ 1000000) ∧ (iF (herS D n lo hi P) → v = vaS D n P ∧ lo ≤ v ∧ v ≤ hi) := by
  have h500 := h.1.1
  cases P with
  | inl b =>
    obtain ⟨hb, b1, b2, b3, b4, b5, b6⟩ := h
    have hk := tk_in (D := D) (n := n) b
    rw [q132_0, b6, i_0, eqT rfl, b5, i_2, ieq (by omega)]
    by_cases c1 : tK D n b = 2
    · obtain ⟨h1, h2, h3, h4⟩ := tk_dig c1
      have hv := nuV_in c1
      obtain ⟨z4, e1⟩ := S132l (X := X) (b := b) (x1 := ii lo) (x2 := ii hi) hb b6 b4 h2 (tE D n b - b) b 0 (by omega) h4 (by omega)
      have e1 : ev true 132 0 28 [pR 13 819, pI (ii lo), pI (ii hi), pI (ii 0), pI (ii b)] [] M X = ev true 132 0 72 [pR 13 819, pI (ii lo), pI (ii hi), pI (ii (nuV D n b)), z4] [] M X := e1
      rw [if_pos c1, q132_20, b2, i_0, e1, q132_72, b6, i_0, eqT rfl, S28 ⟨by omega, by omega⟩ hl hh, kb1, q132_85, i_0, bIT]
      by_cases c2 : lo ≤ nuV D n b ∧ nuV D n b ≤ hi
      · rw [decide_eq_true c2, cond_true, q132_93]
        refine ⟨M, nuV D n b, rfl, ?_, FrP.rf, hv, fun _ => ⟨rfl, c2⟩⟩
        rw [herS_l, if_pos c1, if_neg (by omega)]
        exact ⟨hb, b1, b2, b3, b4, b5, b6⟩
      · obtain ⟨M', a1, a2, a3⟩ := S46 (X := X) (P := .inl b) ⟨hb, b1, b2, b3, b4, b5, b6⟩ (c := 2) (by omega)
        rw [decide_eq_false c2, cond_false, i_2, a1, kb0, q132_93]
        have e2 : herS D n lo hi (.inl b) = .inr (2, b) := by
          rw [herS_l, if_pos c1, if_pos (by omega)]
        refine ⟨M', nuV D n b, rfl, by rw [e2]; exact a2, a3, hv, fun w => ?_⟩
        rw [e2] at w
        obtain ⟨b', w⟩ := w
        cases w
    · obtain ⟨M', a1, a2, a3⟩ := S46 (X := X) (P := .inl b) ⟨hb, b1, b2, b3, b4, b5, b6⟩ (c := 1) (by omega)
      have f23 : M' 819 23 = ii 1 := a2.2.1
      have e2 : herS D n lo hi (.inl b) = .inr (1, b) := by
        rw [herS_l, if_neg c1]
      rw [if_neg c1, i_1, a1, kb0, q132_20, q132_28, f23, i_0, eqF (by omega), q132_72, f23, i_0, eqF (by omega), q132_93]
      refine ⟨M', 0, rfl, by rw [e2]; exact a2, a3, by omega, fun w => ?_⟩
      rw [e2] at w
      obtain ⟨b', w⟩ := w
      cases w
  | inr q =>
    obtain ⟨f, p⟩ := q
    have h1 := h.2.1
    have h2 := h.2.2.1
    rw [q132_0, h1, i_0, eqF (by omega), q132_20, q132_28, h1, i_0, eqF (by omega), q132_72, h1, i_0, eqF (by omega), q132_93]
    refine ⟨M, 0, rfl, h, FrP.rf, by omega, fun w => ?_⟩
    obtain ⟨b', w⟩ := w
    cases w
theorem iF_nx : iF (nextS D n P) ↔ iF P := by
  cases P with
  | inl b => exact ⟨fun _ => ⟨b, rfl⟩, fun _ => ⟨_, rfl⟩⟩
  | inr q => exact ⟨fun w => (by obtain ⟨b, w⟩ := w; cases w), fun w => (by obtain ⟨b, w⟩ := w; cases w)⟩
theorem S218 (h : RTP M D n P) (hl : -2147483648 ≤ lo ∧ lo < 2147483648) (hh : -2147483648 ≤ hi ∧ hi < 2147483648) : ∃ M' v, ev true 218 0 0 [pR 13 819, pI (ii lo), pI (ii hi), p0] [] M X = some (.inl (some (pI (ii v))), M', X) ∧ RTP M' D n (numS D n lo hi P) ∧ FrP M M' ∧ (0 ≤ v ∧ v ≤ 1000000) ∧ (iF (numS D n lo hi P) → v = vaS D n P ∧ lo ≤ v ∧ v ≤ hi) := by
  obtain ⟨M1, v, a1, a2, a3, a4, a5⟩ := S132 (X := X) h hl hh
  obtain ⟨M', b1, b2, b3⟩ := S192 (X := X) a2
  rw [her_nx] at b2
  exact ⟨M', v, by rw [q218_0, a1, kb1, q218_6, b1, kb0, q218_11], b2, a3.tr b3, a4, fun w => a5 (by rw [← her_nx, iF_nx] at w; exact w)⟩
noncomputable def wdR (D : Nat → Int) (n t : Nat) : PS → Bool
  | .inl b => wdB D n b t
  | .inr _ => false
theorem wdR_l {b : Nat} : wdR D n t (.inl b) = wdB D n b t := rfl
theorem S238l {b : Nat} (hb : RB M D n) (h21 : M 819 21 = ii b) (hl : b + sln t ≤ n) : ∀ (m k : Nat), k + m = sln t → ∃ r, ev true 238 0 39 [pR 13 819, pR 18 t, pI (ii 1), pI (ii k)] [] M X = some (.inl (some (pI (bI r))), M, X) ∧ (r = true ↔ ∀ j, k ≤ j → j < sln t → D (b + j) = sch t j) := by
  have h500 := hb.1
  have hs := sln_le t
  intro m
  induction m with
  | zero =>
    intro k h1
    exact ⟨true, by rw [q238_39, i_0, eqF (by omega), S133, kb1, q238_48, ltF (by omega), q238_82, rk1]; rfl, ⟨fun _ j j1 j2 => by omega, fun _ => rfl⟩⟩
  | succ m ih =>
    intro k h1
    obtain ⟨d0, d1, d2⟩ := hb.2.2 (b + k) (by omega)
    have hc := sch_lt t k
    obtain ⟨r, r1, r2⟩ := ih (k + 1) (by omega)
    rw [q238_39, i_0, eqF (by omega), S133, kb1, q238_48, ltT (by omega), S222 (by omega), kb1, q238_56, h21, ii_add, show ((b : Int) + (k : Int)) = ((b + k : Nat) : Int) by omega, inbT (by rw [ln827]; omega), ii_nat (by omega) (by omega), show (((b + k : Nat) : Int)).toNat = b + k by omega, d0, ieq (by omega)]
    by_cases c : (sch t k : Int) = D (b + k)
    · rw [if_pos c, i_1, q238_75, i_1, ii_add]
      refine ⟨r, r1, r2.trans ⟨fun w j j1 j2 => ?_, fun w j j1 j2 => w j (by omega) j2⟩⟩
      rcases Nat.eq_or_lt_of_le j1 with e | e
      · rw [← e]; exact c.symm
      · exact w j e j2
    · rw [if_neg c, i_0, q238_75, q238_39, i_0, eqT rfl, q238_82, rk0]
      exact ⟨false, rfl, ⟨fun w => absurd w (by decide), fun w => absurd (w k (Nat.le_refl _) (by omega)).symm c⟩⟩
theorem S238 (h : RTP M D n P) (t : Nat) : ev true 238 0 0 [pR 13 819, pR 18 t, p0, p0] [] M X = some (.inl (some (pI (bI (wdR D n t P)))), M, X) := by
  obtain ⟨hb, ht⟩ := h
  have h500 := hb.1
  have hs := sln_le t
  have no : ∀ z2 z3 : PV, ev true 238 0 35 [pR 13 819, pR 18 t, z2, z3] [] M X = some (.inl (some (pI (bI false))), M, X) := fun z2 z3 => by
    rw [q238_35, i_0, q238_36, q238_39, i_0, eqT rfl, q238_82, rk0]; rfl
  cases P with
  | inl b =>
    obtain ⟨b1, b2, b3, b4, b5, b6⟩ := ht
    have hk := tk_in (D := D) (n := n) b
    have hte := te_le (D := D) b1
    rw [wdR_l]
    rw [q238_0, b6, i_0, eqT rfl, b5, i_1, ieq (by omega)]
    by_cases c1 : tK D n b = 1
    · rw [if_pos c1, S133, kb1, q238_19, b4, b2, ii_sub, ieq (by omega)]
      by_cases c2 : (sln t : Int) = (tE D n b : Int) - b
      · obtain ⟨r, r1, r2⟩ := S238l (X := X) (t := t) hb b2 (by omega) (sln t) 0 (by omega)
        have e : r = wdB D n b t := bo_iff (r2.trans ⟨fun w => wdB_t.2 ⟨c1, by omega, fun k hk => w k (by omega) hk⟩, fun w j _ hj => (wdB_t.1 w).2.2 j hj⟩)
        rw [if_pos c2, i_1, q238_36, i_0, ← e]
        exact r1
      · have e : wdB D n b t = false := by
          cases hw : wdB D n b t
          · rfl
          · exact absurd (wdB_t.1 hw).2.1 (by omega)
        rw [if_neg c2, no, e]
    · have e : wdB D n b t = false := by
        cases hw : wdB D n b t
        · rfl
        · exact absurd (wdB_t.1 hw).1 c1
      rw [if_neg c1, no, e]
  | inr q =>
    obtain ⟨f, p⟩ := q
    obtain ⟨h1, h2, h3, h4⟩ := ht
    rw [q238_0, h1, i_0, eqF (by omega), no]; rfl
theorem S191 (hb : ∀ i, i < n → M 827 i = ii (D i) ∧ 0 ≤ D i ∧ D i < 256) (hn : n ≤ 500) : ∃ M', ev true 191 0 0 [pR 13 819, pI (ii n)] [] M X = some (.inl none, M', X) ∧ RTP M' D n (.inl (bgT D n 0)) ∧ (∀ b, b ≠ 819 → M' b = M b) ∧ M' 819 26 = ii 0 ∧ ∀ k, k < 18 ∨ k = 25 ∨ 26 < k → M' 819 k = M 819 k := by
  obtain ⟨M1, e1⟩ : ∃ M1, M1 = upM (upM (upM (upM M 819 18 (ii n)) 819 19 0) 819 23 0) 819 26 0 := ⟨_, rfl⟩
  have fz : ∀ b, b ≠ 819 → M1 b = M b := by rw [e1]; exact up819 (up819 (up819 (up819 (fun _ _ => rfl))))
  have hc : RB M1 D n := ⟨hn, by rw [e1, up_d (by decide), up_d (by decide), up_d (by decide), up_s, if_pos rfl], fun i hi => by rw [fz 827 (by decide)]; exact hb i hi⟩
  obtain ⟨M', a1, ⟨a2, a3, a4, a5, a6⟩, a7, a8, a9⟩ := S131 (X := X) hc (e := 0) (Nat.zero_le _) (by rw [e1, up_d (by decide), up_d (by decide), up_s, if_pos rfl]; rfl)
  refine ⟨M', by rw [q191_0, ← e1, a1, kb0, q191_24], ⟨hc.fr a7, a2, a3, a4, a5, a6, ?_⟩, fun b h => (a7.1 b h).trans (fz b h), ?_, fun k h => ?_⟩
  · rw [a8, e1, up_d (by decide), up_s, if_pos rfl]; rfl
  · rw [a7.2 26 (by omega), e1, up_s, if_pos rfl]; rfl
  · rw [a7.2 k (by omega), e1, up_d (by omega), up_d (by omega), up_d (by omega), up_d (by omega)]
def faK : PS → Int
  | .inl _ => 0
  | .inr q => q.1
def faP : PS → Int
  | .inl _ => -1
  | .inr q => q.2
theorem S48 (h : RTP M D n P) : ∃ M', ev true 48 0 0 [pR 13 819] [] M X = some (.inl (some (pI (ii (faK P)))), M', X) ∧ M' = upM (upM M 819 17 (ii 0)) 819 25 (ii (faP P)) := by
  refine ⟨_, ?_, rfl⟩
  obtain ⟨hb, ht⟩ := h
  cases P with
  | inl b =>
    obtain ⟨b1, b2, b3, b4, b5, b6⟩ := ht
    rw [q48_0, up_d (show (23 : Nat) ≠ 17 by decide), b6, i_0, eqT rfl, q48_21, up_d (show (23 : Nat) ≠ 25 by decide), up_d (show (23 : Nat) ≠ 17 by decide), b6, ii_m1]
    rfl
  | inr q =>
    obtain ⟨f, p⟩ := q
    obtain ⟨h1, h2, h3, h4⟩ := ht
    rw [q48_0, up_d (show (23 : Nat) ≠ 17 by decide), h1, i_0, eqF (by omega), q48_21, up_d (show (23 : Nat) ≠ 25 by decide), up_d (show (23 : Nat) ≠ 17 by decide), up_d (show (24 : Nat) ≠ 17 by decide), h1, h3]
    rfl
end RTO
