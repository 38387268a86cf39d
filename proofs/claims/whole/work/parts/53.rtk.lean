/-! the reference: ranks, turns, a tick -/
section RTK
set_option maxRecDepth 100000
variable {u s p l t g : Nat} {j k q e w c T tu nx v off sh i z y n : Int} {A A' : AT} {M M' : Mem} {X : PX} {f : Nat}
theorem WR_k (h : WR M A T) (h1 : M' 820 = M 820) : WR M' A T := ⟨RR_k h.1 h1, h.2⟩
/-- the text that is kept says what the code says -/
def TXT (M : Mem) (A : AT) : Prop := A 0 9 = 1 → ∀ (M1 : Mem) (A1 : AT) (T1 j : Int) (X : PX), (∀ z, 0 ≤ z → z < 1434 → (z = 10 ∨ 934 ≤ z) → rr M1 z = rr M z) → SP A A1 → WR M1 A1 T1 → 0 ≤ j → j < A1 0 3 → M1 819 10 = ii 0 → M1 819 11 = ii j → ∃ M2, ev true 282 0 0 [pR 13 819, p0, p0, p0] [] M1 X = some (.inl (some (pI (hdS ((evS (pvA A1 j) (codeL A1) []).getD [])))), M2, X) ∧ (∀ b, b ≠ 819 → M2 b = M1 b) ∧ ∀ k, k ≠ 10 → k ≠ 11 → M2 819 k = M1 819 k
theorem TXT.mv (h : TXT M A) (hf : FrR M M') (hs : SP A A') : TXT M' A' := fun h1 M1 A1 T1 j X a b c d e f g => h (by rw [← h1, hs.2.2.2.2.2.1]) M1 A1 T1 j X (fun z z1 z2 z3 => (a z z1 z2 z3).trans (hf.2.2 z z1 z3)) (hs.tr b) c d e f g
theorem S285 (h : WR M A T) (ht : TXT M A) (h1 : 0 ≤ j) (h2 : j < A 0 3) : ∃ M', ev true 285 0 0 [pR 13 819, pI (ii j)] [] M X = some (.inl (some (pI (rkA A j))), M', X) ∧ M' 820 = M 820 ∧ FrR M M' := by
  have g := h.2.1.1
  have t9 : M 820 9 = ii (A 0 9) := h.1.1 9 (by omega) (by omega)
  obtain ⟨v0, v1, v2, v3, v4, v5, v6, v7, v8, v9⟩ := h.1.2.2.2.1 j h1 (by omega)
  rw [q285_0, i_9, inR (by omega), t9, i_0, ieq (by omega)]
  unfold rkA
  by_cases c : A 0 9 = 0
  · rw [if_pos c, if_pos c, i_5, S25 (by omega), kb1, v5, q285_16]
    exact ⟨M, rfl, rfl, FrR.rf⟩
  · obtain ⟨M1, e1⟩ : ∃ M1, M1 = upM (upM M 819 10 (ii 0)) 819 11 (ii j) := ⟨_, rfl⟩
    have e8 : M1 820 = M 820 := by rw [e1]; funext y; rw [up_n (by decide), up_n (by decide)]
    obtain ⟨M2, a1, a2, a3⟩ := ht (by omega) M1 A T j X (fun z _ _ _ => rr_at e8) SP.rf (WR_k h e8) h1 h2 (by rw [e1, up_d (by decide), up_s, if_pos rfl]) (by rw [e1, up_s, if_pos rfl])
    refine ⟨M2, ?_, by rw [a2 820 (by decide), e8], fun b b1 b2 b3 => ?_, fun k k1 k2 => ?_, fun z _ _ => rr_at (by rw [a2 820 (by decide), e8])⟩
    · rw [if_neg c, if_neg c, ← e1, a1, kb1, q285_31]
    · rw [a2 b b1, e1]; funext y; rw [up_n b1, up_n b1]
    · rw [a3 k k1 k2, e1, up_d k2, up_d k1]
theorem S287s : ∀ (m n : Nat) (M : Mem) (z6 : PV), (n : Int) + m = A 0 3 → WR M A T → TXT M A → ∃ M' z6', ev true 287 0 16 [pR 13 819, pI (ii 1), pI (ii (scanA A n).1), pI (scanA A n).2, pI (ii (shrA A n)), pI (ii n), z6] [] M X = ev true 287 0 16 [pR 13 819, pI (ii 1), pI (ii (scanA A (n + m)).1), pI (scanA A (n + m)).2, pI (ii (shrA A (n + m))), pI (ii ((n + m : Nat) : Int)), z6'] [] M' X ∧ M' 820 = M 820 ∧ FrR M M' := by
  intro m
  induction m with
  | zero => intro n M z6 h1 h _; exact ⟨M, z6, rfl, rfl, FrR.rf⟩
  | succ m ih =>
    intro n M z6 h1 h ht
    have g := h.2.1.1
    have t3 : M 820 3 = ii (A 0 3) := h.1.1 3 (by omega) (by omega)
    have hsc := scan_in (A := A) n
    obtain ⟨v0, v1, v2, v3, v4, v5, v6, v7, v8, v9⟩ := h.1.2.2.2.1 n (by omega) (by omega)
    rw [q287_16, i_3, inR (by omega), t3, ltT (by omega), S215 h (by omega) (by omega), kb1, q287_33, i_0, bIT]
    by_cases c : gapA A n = -1
    · have e1 : scanA A (n + 1) = scanA A n := by show (if gapA A n = -1 then _ else _) = _; rw [if_pos c]
      have e2 : shrA A (n + 1) = shrA A n := by show (if gapA A n = -1 then _ else _) = _; rw [if_pos c]
      obtain ⟨M', z6', r1, r2, r3⟩ := ih (n + 1) M z6 (by omega) h ht
      rw [e1, e2, show n + 1 + m = n + (m + 1) by omega] at r1
      refine ⟨M', z6', ?_, r2, r3⟩
      rw [decide_eq_false (fun z => z c), cond_false, q287_79, i_1, ii_add]
      exact r1
    · have e2 : shrA A (n + 1) = shrA A n + A 43 n := by show (if gapA A n = -1 then _ else _) = _; rw [if_neg c]
      obtain ⟨M1, a1, a2, a3⟩ := S285 (X := X) h ht (j := n) (by omega) (by omega)
      have k3 : rr M1 (66 + 10 * n + 3) = ii (A 43 n) := by rw [rr_at a2]; exact v3
      rw [decide_eq_true c, cond_true, a1, kb1, q287_45, i_3, S25 (by omega), kb1, k3, q287_56, ii_add, ← e2, ii_m1, ieq (by omega)]
      have hw1 := WR_k h a2
      have ht1 := ht.mv a3 SP.rf
      by_cases d : (scanA A n).1 = -1
      · have e1 : scanA A (n + 1) = ((n : Int), rkA A n) := by show (if gapA A n = -1 then _ else _) = _; rw [if_neg c, if_pos d]
        obtain ⟨M', z6', r1, r2, r3⟩ := ih (n + 1) M1 (pI (rkA A n)) (by omega) hw1 ht1
        rw [e1, show n + 1 + m = n + (m + 1) by omega] at r1
        refine ⟨M', z6', ?_, r2.trans a2, a3.tr r3⟩
        rw [if_pos d, q287_73, q287_79, i_1, ii_add]
        exact r1
      · rw [if_neg d]
        by_cases d2 : (scanA A n).2 < rkA A n
        · have e1 : scanA A (n + 1) = ((n : Int), rkA A n) := by show (if gapA A n = -1 then _ else _) = _; rw [if_neg c, if_neg d, if_pos d2]
          obtain ⟨M', z6', r1, r2, r3⟩ := ih (n + 1) M1 (pI (rkA A n)) (by omega) hw1 ht1
          rw [e1, show n + 1 + m = n + (m + 1) by omega] at r1
          refine ⟨M', z6', ?_, r2.trans a2, a3.tr r3⟩
          rw [if_pos d2, q287_73, q287_79, i_1, ii_add]
          exact r1
        · have e1 : scanA A (n + 1) = scanA A n := by show (if gapA A n = -1 then _ else _) = _; rw [if_neg c, if_neg d, if_neg d2]
          obtain ⟨M', z6', r1, r2, r3⟩ := ih (n + 1) M1 (pI (rkA A n)) (by omega) hw1 ht1
          rw [e1, show n + 1 + m = n + (m + 1) by omega] at r1
          refine ⟨M', z6', ?_, r2.trans a2, a3.tr r3⟩
          rw [if_neg d2, q287_79, i_1, ii_add]
          exact r1
theorem nea_c {B : AT} (he : ∀ f, f ≠ 45 → B f = A f) : ∀ (m : Nat) (x : Int), neaA B x m = neaA A x m
  | 0, _ => rfl
  | m + 1, x => by
    unfold neaA
    rw [he 20 (by decide), he 25 (by decide), he 0 (by decide), nea_c he m]
theorem near_c {B : AT} (he : ∀ f, f ≠ 45 → B f = A f) : nearA B j = nearA A j := by
  unfold nearA
  rw [nea_c he, he 40 (by decide), he 42 (by decide)]
theorem gap_c {B : AT} (he : ∀ f, f ≠ 45 → B f = A f) : gapA B j = gapA A j := by
  unfold gapA
  rw [near_c he, he 90 (by decide), he 44 (by decide)]
theorem payP_s {b : Int → Bool} (h1 : 0 ≤ i) : payP A b (i + 1) = if b i then upA (payP A b i) 45 i (A 45 i + A 43 i) else payP A b i := by
  by_cases hb : b i = true
  · rw [if_pos hb]
    funext f y
    unfold upA payP
    by_cases hf : f = 45 ∧ y = i
    · have e9 : f = 45 ∧ 0 ≤ y ∧ y < i + 1 := ⟨hf.1, by omega, by omega⟩
      rw [if_pos e9, if_pos hf, hf.2, if_pos hb]
    · rw [if_neg hf]
      by_cases hd : f = 45 ∧ 0 ≤ y ∧ y < i
      · have e9 : f = 45 ∧ 0 ≤ y ∧ y < i + 1 := ⟨hd.1, by omega, by omega⟩
        rw [if_pos hd, if_pos e9]
      · have e9 : ¬ (f = 45 ∧ 0 ≤ y ∧ y < i + 1) := fun z => hd ⟨z.1, z.2.1, by have : y ≠ i := fun w => hf ⟨z.1, w⟩; omega⟩
        rw [if_neg hd, if_neg e9]
  · rw [if_neg hb]
    funext f y
    unfold payP
    by_cases hd : f = 45 ∧ 0 ≤ y ∧ y < i
    · have e9 : f = 45 ∧ 0 ≤ y ∧ y < i + 1 := ⟨hd.1, by omega, by omega⟩
      rw [if_pos hd, if_pos e9]
    · rw [if_neg hd]
      by_cases e9 : f = 45 ∧ 0 ≤ y ∧ y < i + 1
      · have hy : y = i := by
          have : ¬ (y < i) := fun z => hd ⟨e9.1, e9.2.1, z⟩
          omega
        rw [if_pos e9, hy, if_neg hb, e9.1, Int.add_zero]
      · rw [if_neg e9]
theorem S237l (hi : INV A T) (hh : HLD A) (hT : T < 1000000) (hc : 0 ≤ c ∧ c < A 0 3) (hg : gapA A c ≠ -1) : ∀ (m : Nat) (i : Int) (M : Mem), i + m = A 0 3 → 0 ≤ i → RR M (payP A (askB A) i) → ∃ M', ev true 237 0 2 [pR 13 819, pI (ii c), pI (ii sh), pI (ii i)] [] M X = some (.inl none, M', X) ∧ RR M' (payA (holdA A (gapA A c) c) (askB A) c sh) ∧ FrR M M' := by
  have g := hi.1
  have pf : ∀ i f, f ≠ 45 → payP A (askB A) i f = A f := fun i f hf => payP_f hf
  intro m
  induction m with
  | zero =>
    intro i M h1 h2 h
    have hi3 : i = A 0 3 := by omega
    subst hi3
    have t3 : M 820 3 = ii (A 0 3) := by have := h.1 3 (by omega) (by omega); rw [pf _ 0 (by decide)] at this; exact this
    obtain ⟨v0, v1, v2, v3, v4, v5, v6, v7, v8, v9⟩ := h.2.2.2.1 c hc.1 (by omega)
    have hb := RR_45 (v := payP A (askB A) (A 0 3) 45 c - sh) h hc.1 (by omega)
    have e : upA (payP A (askB A) (A 0 3)) 45 c (payP A (askB A) (A 0 3) 45 c - sh) = payA A (askB A) c sh := by
      funext f y
      unfold upA payP payA
      by_cases hf : f = 45 ∧ y = c
      · have e8 : (45 : Nat) = 45 ∧ 0 ≤ c ∧ c < A 0 3 := ⟨rfl, hc.1, hc.2⟩
        have e9 : f = 45 ∧ 0 ≤ y ∧ y < A 0 3 := ⟨hf.1, by omega, by omega⟩
        rw [if_pos hf, if_pos e8, if_pos e9, if_pos hf.2, hf.2]
      · rw [if_neg hf]
        by_cases hd : f = 45 ∧ 0 ≤ y ∧ y < A 0 3
        · rw [if_pos hd, if_pos hd, if_neg (fun z => hf ⟨hd.1, z⟩), Int.sub_zero]
        · rw [if_neg hd, if_neg hd]
    rw [e] at hb
    have hgp := gap_in hi hc.1 hc.2
    have hgn : gapA A c = nearA A c := by
      unfold gapA at hg ⊢
      split at hg
      · next z => rw [if_pos z]
      · exact absurd rfl hg
    have hw : WR (sr M (66 + 10 * c + 5) (ii (payP A (askB A) (A 0 3) 45 c - sh))) (payA A (askB A) c sh) T := ⟨hb, pay_INV hi, hT, hh.mv (by rw [payA_f (by decide)]) (by rw [payA_f (by decide)]) (payA_f (by decide)) (payA_f (by decide))⟩
    have hb2 := RR_25 (v := c) hb (j := gapA A c) (by omega) (by rw [payA_f (by decide)]; omega)
    refine ⟨_, ?_, RR_c9 hb2 (fun f f1 f2 => ?_), (FrR.sr (by omega) (by omega)).tr (FrR.sr (by omega) (by omega))⟩
    · rw [q237_2, i_3, inR (by omega), t3, ltF (by omega), i_66, i_10, i_5, ii_mul, ii_add, ii_add, inR (by omega), inR (by omega), rr_i M (by omega), v5, ii_sub, sr_i (M := M) (by omega), S184 hw hc.1 (by rw [payA_f (by decide)]; exact hc.2), kb1, near_c (fun f hf => payA_f hf), ← hgn, q237_81, i_6, i_174, i_5, ii_mul, ii_add, ii_add, inR (by omega), sr_i (by omega)]
    · funext y
      unfold upA payA
      have h0 : holdA A (gapA A c) c 0 3 = A 0 3 := by rw [holdA_f (by decide) (by decide)]
      have h45 : ∀ y, holdA A (gapA A c) c 45 y = A 45 y := fun y => by rw [holdA_f (by decide) (by decide)]
      have h43 : ∀ y, holdA A (gapA A c) c 43 y = A 43 y := fun y => by rw [holdA_f (by decide) (by decide)]
      rw [h0, h45, h43]
      by_cases hd : f = 45 ∧ 0 ≤ y ∧ y < A 0 3
      · have e9 : ¬ (f = 25 ∧ y = gapA A c) := fun z => by omega
        rw [if_pos hd, if_neg e9, if_pos hd]
      · rw [if_neg hd, if_neg hd]
        unfold holdA
        rw [upA_n f2]
        rfl
  | succ m ih =>
    intro i M h1 h2 h
    have t3 : M 820 3 = ii (A 0 3) := by have := h.1 3 (by omega) (by omega); rw [pf _ 0 (by decide)] at this; exact this
    obtain ⟨v0, v1, v2, v3, v4, v5, v6, v7, v8, v9⟩ := h.2.2.2.1 i h2 (by omega)
    have hw : WR M (payP A (askB A) i) T := ⟨h, payP_INV hi, hT, hh.mv (by rw [pf _ _ (by decide)]) (by rw [pf _ _ (by decide)]) (pf _ _ (by decide)) (pf _ _ (by decide))⟩
    have h9 := payP_s (A := A) (b := askB A) h2
    rw [q237_2, i_3, inR (by omega), t3, ltT (by omega), S215 hw h2 (by rw [pf _ _ (by decide)]; omega), kb1, gap_c (pf i), q237_17, i_0, bIT]
    by_cases c1 : gapA A i = -1
    · have hb : ¬ askB A i = true := by unfold askB; rw [decide_eq_false (fun z => z c1)]; decide
      rw [if_neg hb] at h9
      obtain ⟨M', r1, r2, r3⟩ := ih (i + 1) M (by omega) (by omega) (by rw [h9]; exact h)
      refine ⟨M', ?_, r2, r3⟩
      rw [decide_eq_false (fun z => z c1), cond_false, q237_43, i_1, ii_add, r1]
    · have hb : askB A i = true := by unfold askB; rw [decide_eq_true c1]
      rw [if_pos hb] at h9
      have hr := RR_45 (v := A 45 i + A 43 i) h h2 (by omega)
      rw [← h9] at hr
      obtain ⟨M', r1, r2, r3⟩ := ih (i + 1) _ (by omega) (by omega) hr
      have e5 : payP A (askB A) i 45 i = A 45 i := by
        unfold payP
        rw [if_neg (fun z => by omega)]
      rw [e5] at v5
      rw [pf _ _ (by decide)] at v3
      refine ⟨M', ?_, r2, (FrR.sr (by omega) (by omega)).tr r3⟩
      rw [decide_eq_true c1, cond_true, i_66, i_10, i_5, ii_mul, ii_add, ii_add, inR (by omega), i_3, S25 (by omega), kb1, rr_i M (by omega), v5, v3, q237_41, inR (by omega), ii_add, sr_i (M := M) (by omega), q237_43, i_1, ii_add, r1]
theorem S237 (h : WR M A T) (hc : 0 ≤ c ∧ c < A 0 3) (hg : gapA A c ≠ -1) : ∃ M', ev true 237 0 0 [pR 13 819, pI (ii c), pI (ii sh), p0] [] M X = some (.inl none, M', X) ∧ RR M' (payA (holdA A (gapA A c) c) (askB A) c sh) ∧ FrR M M' := by
  have e : payP A (askB A) 0 = A := by
    funext f y
    unfold payP
    rw [if_neg (fun z => by omega)]
  obtain ⟨M', r1, r2, r3⟩ := S237l (X := X) (sh := sh) h.2.1 h.2.2.2 h.2.2.1 hc hg (A 0 3).toNat 0 M (by have := h.2.1.1; omega) (by omega) (by rw [e]; exact h.1)
  exact ⟨M', by rw [q237_0, i_0, r1], r2, r3⟩
def freC (A : AT) : Int := cnI (fun q => decide (A 20 q = -1 ∧ A 25 q = -1)) (A 0 0).toNat
theorem fre_pos (hq : 0 ≤ q ∧ q < A 0 0) (h1 : A 20 q = -1) (h2 : A 25 q = -1) : 0 < freC A := by
  have hu := cnI_u (P := fun q => decide (A 20 q = -1 ∧ A 25 q = -1)) (Q := fun y => if y = q then false else decide (A 20 y = -1 ∧ A 25 y = -1)) (x := q) (n := (A 0 0).toNat) hq.1 (by omega) (fun y _ _ hy => by rw [if_neg hy])
  have h0 := cnI_in (fun y => if y = q then false else decide (A 20 y = -1 ∧ A 25 y = -1)) (A 0 0).toNat
  unfold freC
  rw [hu, decide_eq_true ⟨h1, h2⟩]
  simp only [if_true, Bool.false_eq_true, if_false]
  omega
theorem fre_turn (hi : INV A T) (hc : (scanA A (A 0 3).toNat).1 ≠ -1) : freC (turnA A) = freC A - 1 ∧ 0 < freC A := by
  have g := hi.1
  have hsc := scan_in (A := A) (A 0 3).toNat
  obtain ⟨ch, hch⟩ : ∃ ch, ch = (scanA A (A 0 3).toNat).1 := ⟨_, rfl⟩
  have htu : turnA A = payA (holdA A (gapA A ch) ch) (askB A) ch (shrA A (A 0 3).toNat) := by unfold turnA; rw [← hch]
  rw [← hch] at hsc hc
  have hgp := gap_in hi (j := ch) (by omega) (by omega)
  have hg20 := hgp.2.2 (hsc.2.2 hc)
  have hgr : 0 ≤ gapA A ch ∧ gapA A ch < A 0 0 := ⟨by have := hsc.2.2 hc; omega, hgp.2.1⟩
  have e20 : turnA A 20 = A 20 := by rw [htu, payA_f (by decide), holdA_f (by decide) (by decide)]
  have e25 : ∀ y, turnA A 25 y = if y = gapA A ch then ch else A 25 y := fun y => by rw [htu, payA_f (by decide), holdA_25]
  have e0 : turnA A 0 = A 0 := by rw [htu, payA_f (by decide), holdA_f (by decide) (by decide)]
  have hu := cnI_u (P := fun q => decide (turnA A 20 q = -1 ∧ turnA A 25 q = -1)) (Q := fun q => decide (A 20 q = -1 ∧ A 25 q = -1)) (x := gapA A ch) (n := (A 0 0).toNat) hgr.1 (by omega) (fun y _ _ hy => by rw [e20, e25, if_neg hy])
  refine ⟨?_, fre_pos hgr hg20.1 hg20.2⟩
  unfold freC
  rw [e0, hu, decide_eq_true hg20, decide_eq_false (fun z => by rw [e25, if_pos rfl] at z; omega)]
  simp
theorem turn_INV (hi : INV A T) (hh : HLD A) (hc : (scanA A (A 0 3).toNat).1 ≠ -1) : INV (turnA A) T ∧ HLD (turnA A) := by
  have g := hi.1
  have hsc := scan_in (A := A) (A 0 3).toNat
  obtain ⟨ch, hch⟩ : ∃ ch, ch = (scanA A (A 0 3).toNat).1 := ⟨_, rfl⟩
  have htu : turnA A = payA (holdA A (gapA A ch) ch) (askB A) ch (shrA A (A 0 3).toNat) := by unfold turnA; rw [← hch]
  rw [← hch] at hsc hc
  have hgp := gap_in hi (j := ch) (by omega) (by omega)
  have hg20 := hgp.2.2 (hsc.2.2 hc)
  have hgr : 0 ≤ gapA A ch ∧ gapA A ch < A 0 0 := ⟨by have := hsc.2.2 hc; omega, hgp.2.1⟩
  rw [htu]
  exact ⟨pay_INV (hold_INV hi ⟨by omega, by omega⟩ hg20.1), (hold_HLD hh hi hgr ⟨by omega, by omega⟩ hg20.2).mv (by rw [payA_f (by decide)]) (by rw [payA_f (by decide)]) (payA_f (by decide)) (payA_f (by decide))⟩
theorem S287l : ∀ (n : Nat) (A : AT) (M : Mem) (z2 z3 z4 z5 z6 : PV), freC A ≤ n → WR M A T → TXT M A → ∃ M', ev true 287 0 2 [pR 13 819, pI (ii 1), z2, z3, z4, z5, z6] [] M X = some (.inl none, M', X) ∧ WR M' (tursA n A) T ∧ FrR M M' := by
  have step : ∀ (A : AT) (M : Mem) (z2 z3 z4 z5 z6 : PV), WR M A T → TXT M A → ∃ M1 z6', M1 820 = M 820 ∧ FrR M M1 ∧ ev true 287 0 2 [pR 13 819, pI (ii 1), z2, z3, z4, z5, z6] [] M X = (if (scanA A (A 0 3).toNat).1 = -1 then some (.inl none, M1, X) else (ev true 237 0 0 [pR 13 819, pI (ii (scanA A (A 0 3).toNat).1), pI (ii (shrA A (A 0 3).toNat)), p0] [] M1 X).bind (kRet true false 287 0 0 107 (ev true 287 0) [pR 13 819, pI (ii 1), pI (ii (scanA A (A 0 3).toNat).1), pI (scanA A (A 0 3).toNat).2, pI (ii (shrA A (A 0 3).toNat)), pI (ii (A 0 3)), z6'] [] X)) := by
    intro A M z2 z3 z4 z5 z6 h ht
    have g := h.2.1.1
    have hsc := scan_in (A := A) (A 0 3).toNat
    obtain ⟨M1, z6', a1, a2, a3⟩ := S287s (X := X) (A := A) (A 0 3).toNat 0 M z6 (by omega) h ht
    rw [Nat.zero_add, show (((A 0 3).toNat : Nat) : Int) = A 0 3 by omega] at a1
    have a1 : ev true 287 0 16 [pR 13 819, pI (ii 1), pI (ii (-1)), pI (ii 0), pI (ii 0), pI (ii 0), z6] [] M X = _ := a1
    have t3 : M1 820 3 = ii (A 0 3) := (WR_k h a2).1.1 3 (by omega) (by omega)
    refine ⟨M1, z6', a2, a3, ?_⟩
    rw [q287_2, ii_m1, i_0, eqF (by omega), a1, q287_16, i_3, inR (by omega), t3, ltF (by omega), ii_m1, ieq (by omega)]
    by_cases c : (scanA A (A 0 3).toNat).1 = -1
    · rw [if_pos c, if_pos c, i_0, q287_95, i_0, eqT rfl, q287_107, q287_2, i_0, eqT rfl]
    · rw [if_neg c, if_neg c, i_1, q287_95, i_0, eqF (by omega)]
  intro n
  induction n with
  | zero =>
    intro A M z2 z3 z4 z5 z6 hf h ht
    obtain ⟨M1, z6', a1, a2, a3⟩ := step A M z2 z3 z4 z5 z6 h ht
    have c : (scanA A (A 0 3).toNat).1 = -1 := by
      rcases Classical.em ((scanA A (A 0 3).toNat).1 = -1) with c | c
      · exact c
      · have := (fre_turn h.2.1 c).2; omega
    rw [if_pos c] at a3
    exact ⟨M1, a3, WR_k h a1, a2⟩
  | succ n ih =>
    intro A M z2 z3 z4 z5 z6 hf h ht
    obtain ⟨M1, z6', a1, a2, a3⟩ := step A M z2 z3 z4 z5 z6 h ht
    show ∃ M', _ ∧ WR M' (if (scanA A (A 0 3).toNat).1 = -1 then A else tursA n (turnA A)) T ∧ _
    by_cases c : (scanA A (A 0 3).toNat).1 = -1
    · rw [if_pos c] at a3
      rw [if_pos c]
      exact ⟨M1, a3, WR_k h a1, a2⟩
    · rw [if_neg c] at a3
      rw [if_neg c]
      have g := h.2.1.1
      have hsc := scan_in (A := A) (A 0 3).toNat
      have hfr := fre_turn h.2.1 c
      obtain ⟨ti, th⟩ := turn_INV h.2.1 h.2.2.2 c
      obtain ⟨M2, b1, b2, b3⟩ := S237 (X := X) (sh := shrA A (A 0 3).toNat) (WR_k h a1) (c := (scanA A (A 0 3).toNat).1) (by omega) (hsc.2.2 c)
      have hw2 : WR M2 (turnA A) T := ⟨b2, ti, h.2.2.1, th⟩
      obtain ⟨M3, d1, d2, d3⟩ := ih (turnA A) M2 (pI (ii (scanA A (A 0 3).toNat).1)) (pI (scanA A (A 0 3).toNat).2) (pI (ii (shrA A (A 0 3).toNat))) (pI (ii (A 0 3))) z6' (by omega) hw2 ((ht.mv a2 SP.rf).mv b3 turn_SP)
      refine ⟨M3, ?_, d2, (a2.tr b3).tr d3⟩
      rw [a3, b1, kb0, q287_107, d1]
theorem S287 (h : WR M A T) (ht : TXT M A) : ∃ M', ev true 287 0 0 [pR 13 819, p0, p0, p0, p0, p0, p0] [] M X = some (.inl none, M', X) ∧ WR M' (allTurnsA A) T ∧ FrR M M' := by
  obtain ⟨M', r1, r2, r3⟩ := S287l (X := X) (A 0 0).toNat A M p0 p0 p0 p0 p0 (cnI_in _ _).2 h ht
  exact ⟨M', by rw [q287_0, i_1, r1], r2, r3⟩
theorem S291l : ∀ (m : Nat) (e : Int) (A : AT) (M : Mem), e + m = A 0 1 → 0 ≤ e → WR M A T → ∃ M', ev true 291 0 32 [pR 13 819, pI (ii e)] [] M X = some (.inl none, M', X) ∧ WR M' (decsA m e A) T ∧ FrR M M' := by
  intro m
  induction m with
  | zero =>
    intro e A M h1 h2 h
    have t1 : M 820 1 = ii (A 0 1) := h.1.1 1 (by omega) (by omega)
    have g := h.2.1.1
    exact ⟨M, by rw [q291_32, i_1, inR (by omega), t1, ltF (by omega)], h, FrR.rf⟩
  | succ m ih =>
    intro e A M h1 h2 h
    have t1 : M 820 1 = ii (A 0 1) := h.1.1 1 (by omega) (by omega)
    have g := h.2.1.1
    obtain ⟨x1, x2, x3, x4, x5, x6, x7, x8, x9, x10⟩ := h.2.1.2.1 e h2 (by omega)
    obtain ⟨r0, r1, r2, r3, r4⟩ := h.1.2.1 e h2 (by omega)
    have hr := RR_32 (v := dec1 A e) h.1 h2 (by omega)
    have hd : (if 0 < A 32 e - 1 then ii (A 32 e - 1) else ii 0) = ii (dec1 A e) := by unfold dec1; split <;> rfl
    have hw : WR (sr M (12 + 5 * e + 2) (ii (dec1 A e))) (decA A e) T := ⟨hr, dec_INV h.2.1 h2 (by omega), h.2.2.1, h.2.2.2.mv dec_SP.1 dec_SP.2.2.2.1 (by unfold decA; rw [upA_f (by decide)]) (by unfold decA; rw [upA_f (by decide)])⟩
    obtain ⟨M', b1, b2, b3⟩ := ih (e + 1) (decA A e) _ (by rw [dec_SP.2.1]; omega) (by omega) hw
    refine ⟨M', ?_, b2, (FrR.sr (by omega) (by omega)).tr b3⟩
    rw [q291_32, i_1, inR (by omega), t1, ltT (by omega), i_2, S29 (by omega), kb1, r2, i_0, q291_61, i_1, ii_sub, ilt (by omega), hd, i_12, i_5, ii_mul, ii_add, ii_add, q291_66, inR (by omega), sr_i (M := M) (by omega), i_1, ii_add, b1]
theorem S291 (h : WR M A T) (ht : TXT M A) (hT : T + 1 < 1000000) (ho : M 819 8 = ii off) (ho2 : -1 ≤ off ∧ off < 100) : ∃ M', ev true 291 0 0 [pR 13 819, p0] [] M X = some (.inl none, M', X) ∧ WR M' (stepA off A) (T + 1) ∧ TXT M' (stepA off A) ∧ FrR M M' := by
  have g := h.2.1.1
  obtain ⟨M1, a1, a2, a3⟩ := S181 (X := X) h ho ho2
  have sp1 : SP A (allComeA off A) := comes_SP _ _ _
  obtain ⟨M2, b1, b2, b3⟩ := S123 (X := X) a2
  rw [sp1.1] at b2
  have sp2 : SP (allComeA off A) (advA (A 0 0) (allComeA off A)) := adv_SP
  obtain ⟨M3, c1, c2, c3⟩ := S182 (X := X) b2
  have sp3 : SP (advA (A 0 0) (allComeA off A)) (allExitsA (advA (A 0 0) (allComeA off A))) := exits_SP _ _ _
  obtain ⟨M4, d1, d2, d3⟩ := S183 (X := X) c2
  have sp4 : SP (allExitsA (advA (A 0 0) (allComeA off A))) (allSidesA (allExitsA (advA (A 0 0) (allComeA off A)))) := sides_SP _ _ _
  have f4 : FrR M M4 := ((a3.tr b3).tr c3).tr d3
  have t4 := ht.mv f4 (((sp1.tr sp2).tr sp3).tr sp4)
  obtain ⟨M5, e1, e2, e3⟩ := S287 (X := X) d2 t4
  have sp5 : SP (allSidesA (allExitsA (advA (A 0 0) (allComeA off A)))) (allTurnsA (allSidesA (allExitsA (advA (A 0 0) (allComeA off A))))) := turs_SP _ _
  obtain ⟨B, hB⟩ : ∃ B, B = allTurnsA (allSidesA (allExitsA (advA (A 0 0) (allComeA off A)))) := ⟨_, rfl⟩
  have spB : SP A B := by rw [hB]; exact (((sp1.tr sp2).tr sp3).tr sp4).tr sp5
  rw [← hB] at e2
  have t5 : M5 820 5 = ii (B 0 5) := e2.1.1 5 (by omega) (by omega)
  have hr6 := RR_05 (v := B 0 5 + 1) e2.1
  have hw6 : WR (sr M5 5 (ii (B 0 5 + 1))) (upA B 0 5 (B 0 5 + 1)) (T + 1) := ⟨hr6, tick_INV e2.2.1, hT, e2.2.2.2.mv (upA_d (by decide)) (upA_d (by decide)) (upA_f (by decide)) (upA_f (by decide))⟩
  have n1 : upA B 0 5 (B 0 5 + 1) 0 1 = A 0 1 := by rw [upA_d (by decide)]; exact spB.2.1
  obtain ⟨M7, k1, k2, k3⟩ := S291l (X := X) (A 0 1).toNat 0 (upA B 0 5 (B 0 5 + 1)) _ (by rw [n1]; omega) (by omega) hw6
  have f7 : FrR M M7 := ((f4.tr e3).tr (FrR.sr (by omega) (by omega))).tr k3
  have hS : stepA off A = decsA (A 0 1).toNat 0 (upA B 0 5 (B 0 5 + 1)) := by unfold stepA; rw [← hB]
  refine ⟨M7, ?_, by rw [hS]; exact k2, ht.mv f7 step_SP, f7⟩
  rw [q291_0, a1, kb0, q291_4, b1, kb0, q291_8, c1, kb0, q291_12, d1, kb0, q291_16, e1, kb0, q291_20, i_5, inR (by omega), inR (by omega), t5, i_1, ii_add, i_0]
  exact k1
theorem S296l {n : Int} (hn : n < 1000000) (ho2 : -1 ≤ off ∧ off < 100) : ∀ (m : Nat) (i : Int) (A : AT) (M : Mem) (T : Int), i + m = n → 0 ≤ i → T + m < 1000000 → M 819 8 = ii off → WR M A T → TXT M A → ∃ M', ev true 296 0 2 [pR 13 819, pI (ii n), pI (ii i)] [] M X = some (.inl none, M', X) ∧ WR M' (runA off m A) (T + m) ∧ TXT M' (runA off m A) ∧ FrR M M' := by
  intro m
  induction m with
  | zero =>
    intro i A M T h1 h2 h3 ho h ht
    exact ⟨M, by rw [q296_2, ltF (by omega)], by rw [show T + ((0 : Nat) : Int) = T by omega]; exact h, ht, FrR.rf⟩
  | succ m ih =>
    intro i A M T h1 h2 h3 ho h ht
    obtain ⟨M1, a1, a2, a3, a4⟩ := S291 (X := X) h ht (by omega) ho ho2
    obtain ⟨M2, b1, b2, b3, b4⟩ := ih (i + 1) (stepA off A) M1 (T + 1) (by omega) (by omega) (by omega) (by rw [a4.2.1 8 (by decide) (by decide)]; exact ho) a2 a3
    refine ⟨M2, by rw [q296_2, ltT (by omega), a1, kb0, q296_11, i_1, ii_add, b1], ?_, b3, a4.tr b4⟩
    rw [show T + ((m + 1 : Nat) : Int) = T + 1 + m by omega]
    exact b2
theorem S296 {n : Nat} (h : WR M A T) (ht : TXT M A) (hT : T + n < 1000000) (hn : n < 1000000) (ho : M 819 8 = ii off) (ho2 : -1 ≤ off ∧ off < 100) : ∃ M', ev true 296 0 0 [pR 13 819, pI (ii n), p0] [] M X = some (.inl none, M', X) ∧ WR M' (runA off n A) (T + n) ∧ TXT M' (runA off n A) ∧ FrR M M' := by
  obtain ⟨M', a1, a2, a3, a4⟩ := S296l (X := X) (n := n) (by omega) ho2 n 0 A M T (by omega) (by omega) hT ho h ht
  exact ⟨M', by rw [q296_0, i_0, a1], a2, a3, a4⟩
end RTK
