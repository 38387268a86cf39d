/-! turns, one after another; a tick -/
section TRN
set_option maxRecDepth 100000
variable {u s p l t g : Nat} {j k q e w c T tu nx v off sh i : Int} {A A' : AT} {M M' : Mem} {X : PX} {f : Nat}
/-- which side is chosen out of the first n, and its rank -/
def scanA (A : AT) : Nat → Int × Int32
  | 0 => (-1, ii 0)
  | n + 1 => if gapA A n = -1 then scanA A n else if (scanA A n).1 = -1 then (n, rkA A n) else if (scanA A n).2 < rkA A n then (n, rkA A n) else scanA A n
def shrA (A : AT) : Nat → Int
  | 0 => 0
  | n + 1 => if gapA A n = -1 then shrA A n else shrA A n + A 43 n
def askB (A : AT) (y : Int) : Bool := decide (gapA A y ≠ -1)
def gcA (A : AT) (c : Int) : Int := if c = -1 then -1 else gapA A c
theorem scan_in : ∀ n : Nat, -1 ≤ (scanA A n).1 ∧ (scanA A n).1 < n ∧ ((scanA A n).1 ≠ -1 → gapA A (scanA A n).1 ≠ -1)
  | 0 => ⟨Int.le_refl _, by show (-1 : Int) < 0; omega, fun h => absurd rfl h⟩
  | n + 1 => by
    have ih := scan_in n
    unfold scanA
    split
    · exact ⟨ih.1, by omega, ih.2.2⟩
    · next h =>
      split
      · exact ⟨by show (-1 : Int) ≤ n; omega, by show (n : Int) < ((n + 1 : Nat) : Int); omega, fun _ => h⟩
      · split
        · exact ⟨by show (-1 : Int) ≤ n; omega, by show (n : Int) < ((n + 1 : Nat) : Int); omega, fun _ => h⟩
        · exact ⟨ih.1, by omega, ih.2.2⟩
def holdA (A : AT) (q c : Int) : AT := upA (upA A 25 q c) 90 c (A 90 c + 1)
theorem holdA_f (h1 : f ≠ 25) (h2 : f ≠ 90) : holdA A q c f = A f := by
  unfold holdA
  rw [upA_f h2, upA_f h1]
theorem holdA_25 (y : Int) : holdA A q c 25 y = if y = q then c else A 25 y := by
  unfold holdA
  rw [upA_n (by decide), upA_s]
theorem hold_SP : SP A (holdA A q c) := by
  refine ⟨?_, ?_, ?_, ?_, ?_, ?_, ?_, ?_, ?_, ?_, ?_, ?_, ?_, ?_, ?_, ?_, ?_⟩ <;> rw [holdA_f (by decide) (by decide)]
theorem hold_INV (hi : INV A T) (hc : 0 ≤ c ∧ c < A 0 3) (h20 : A 20 q = -1) : INV (holdA A q c) T := by
  obtain ⟨g, x, wx, sx, z, cx, px⟩ := hi
  unfold INV
  simp (disch := omega) only [holdA_f, holdA_25]
  refine ⟨g, x, wx, sx, z, cx, fun y y1 y2 => ?_⟩
  obtain ⟨y3, y4, y5, y6, y7, y8, y9, y10⟩ := px y y1 y2
  by_cases hy : y = q
  · subst hy
    simp only [if_true]
    exact ⟨y3, y4, y5, y6, by omega, hc.2, fun h => absurd h20 h, y10⟩
  · simp only [if_neg hy]
    exact ⟨y3, y4, y5, y6, y7, y8, y9, y10⟩
theorem hold_HLD (h : HLD A) (hi : INV A T) (hq : 0 ≤ q ∧ q < A 0 0) (hc : 0 ≤ c ∧ c < A 0 3) (h25 : A 25 q = -1) : HLD (holdA A q c) := by
  intro y y1 y2
  have e0 : holdA A q c 0 = A 0 := holdA_f (by decide) (by decide)
  rw [e0] at y2
  rw [e0]
  have e90 : holdA A q c 90 y = if y = c then A 90 c + 1 else A 90 y := by unfold holdA; rw [upA_s, upA_f (by decide)]
  have g := hi.1
  have hu := cnI_u (P := fun z => decide (holdA A q c 25 z = y)) (Q := fun z => decide (A 25 z = y)) (x := q) (n := (A 0 0).toNat) hq.1 (by omega) (fun z _ _ hz => by rw [holdA_25, if_neg hz])
  rw [hu, e90, holdA_25, if_pos rfl, h25, decide_eq_false (show ¬ (-1 : Int) = y by omega)]
  have hy := h y y1 y2
  by_cases d : y = c
  · subst d
    rw [if_pos rfl, decide_eq_true rfl, hy]
    simp
  · rw [if_neg d, decide_eq_false (show ¬ c = y from fun z => d z.symm), hy]
    simp
/-- one turn: a gap is reserved, if one asks for it -/
def turnA (A : AT) : AT := payA (holdA A (gapA A (scanA A (A 0 3).toNat).1) (scanA A (A 0 3).toNat).1) (askB A) (scanA A (A 0 3).toNat).1 (shrA A (A 0 3).toNat)
def tursA : Nat → AT → AT
  | 0, A => A
  | m + 1, A => if (scanA A (A 0 3).toNat).1 = -1 then A else tursA m (turnA A)
/-- a world with its counts and its law -/
def WT (M : Mem) (p s : Nat) (A : AT) (T : Int) : Prop := WS M p s A T ∧ HLD A ∧ LW A
def FrT (p s : Nat) (M M' : Mem) : Prop := ∀ b, (b ≤ s ∨ s + 50 ≤ b) → b ≠ p + 27 → b ≠ p + 31 → M' b = M b
theorem FrT.tr {M1 M2 M3 : Mem} (h1 : FrT p s M1 M2) (h2 : FrT p s M2 M3) : FrT p s M1 M3 := fun b h a c => (h2 b h a c).trans (h1 b h a c)
theorem FrI.ot (h : FrI s M M') : FrT p s M M' := fun b hb _ _ => h b hb
theorem S212s (hl : HLD A) (hw : LW A) : ∀ (m n : Nat) (M : Mem) (x2 : Int32) (z9 z10 : PV), (n : Int) + m = A 0 3 → WS M p s A T → ∃ M' z9' z10' x8, ev true 212 0 27 [pR 6 s, pR 5 p, pI x2, pI (ii (scanA A n).1), pI (ii (gcA A (scanA A n).1)), pI (scanA A n).2, pI (ii (shrA A n)), pI (mskF (fun y => askB A y) n), pI (ii n), z9, z10] [] M X =
    (if (scanA A (n + m)).1 = -1 then some (.inl none, M', X) else (ev true 88 0 0 [pR 9 (s + 1), pI (ii (gcA A (scanA A (n + m)).1)), pI (ii (scanA A (n + m)).1)] [] M' X).bind (kRet true false 212 0 0 131 (ev true 212 0) [pR 6 s, pR 5 p, pI x2, pI (ii (scanA A (n + m)).1), pI (ii (gcA A (scanA A (n + m)).1)), pI (scanA A (n + m)).2, pI (ii (shrA A (n + m))), pI (mskF (fun y => askB A y) (n + m)), pI x8, z9', z10'] [] X)) ∧ ∀ b, b ≠ p + 27 → b ≠ p + 31 → M' b = M b := by
  intro m
  induction m with
  | zero =>
    intro n M x2 z9 z10 h1 h
    have e3 := h.1.2.2.2.1
    have g := h.2.2.2.2.1.1
    have hs := scan_in (A := A) n
    refine ⟨M, z9, z10, ii n, ?_, fun _ _ _ => rfl⟩
    rw [q212_27, e3, ltF (by omega), ii_m1, ieq (by omega)]
    rfl
  | succ m ih =>
    intro n M x2 z9 z10 h1 h
    have hwz := h
    obtain ⟨hp, hpl, hs, hL, hi, hT, hd⟩ := h
    have g := hi.1
    have e3 := hp.2.2.2.1
    have l25 : rl (s + 25) = 6 := hL.2.2.2.2.2.2.1
    have hgp := gap_in hi (j := n) (by omega) (by omega)
    have hsc := scan_in (A := A) n
    have r43 := hs.2.2.2.2.2.2.1 n (by omega) (by omega)
    rw [q212_27, e3, ltT (by omega), S160 hwz (hl.in hi (by omega) (by omega)) (by omega) (by omega), kb1, q212_43, ii_m1, ieq (by omega)]
    by_cases c : gapA A n = -1
    · obtain ⟨M', z9', z10', x8, t1, t2⟩ := ih (n + 1) M x2 (pI (ii (gapA A n))) z10 (by omega) hwz
      refine ⟨M', z9', z10', x8, ?_, t2⟩
      have e1 : scanA A (n + 1) = scanA A n := by show (if gapA A n = -1 then _ else _) = _; rw [if_pos c]
      have e2 : shrA A (n + 1) = shrA A n := by show (if gapA A n = -1 then _ else _) = _; rw [if_pos c]
      have e4 : mskF (fun y => askB A y) (n + 1) = mskF (fun y => askB A y) n := by
        show (if askB A n = true then _ else _) = _
        unfold askB
        rw [decide_eq_false (fun z => z c)]
        rfl
      rw [e1, e2, e4, show n + 1 + m = n + (m + 1) by omega] at t1
      rw [if_pos c, q212_109, i_1, ii_add]
      exact t1
    · obtain ⟨M1, r1, r2⟩ := S157 (X := X) hwz hw (j := n) (by omega) (by omega)
      have e2 : shrA A (n + 1) = shrA A n + A 43 n := by show (if gapA A n = -1 then _ else _) = _; rw [if_neg c]
      have e4 : mskF (fun y => askB A y) (n + 1) = mskF (fun y => askB A y) n ||| (ii 1 <<< (ii n &&& ii 31)) := by
        show (if askB A n = true then _ else _) = _
        unfold askB
        rw [decide_eq_true c]
        rfl
      rw [if_neg c, i_31, i_1, S12 (by omega) (by omega), kb1, q212_74, r43, ii_add, ← e4, ← e2, r1, kb1, q212_84, ii_m1, ieq (by omega)]
      have hw1 := hwz.scr r2
      by_cases d : (scanA A n).1 = -1
      · have e1 : scanA A (n + 1) = ((n : Int), rkA A n) := by show (if gapA A n = -1 then _ else _) = _; rw [if_neg c, if_pos d]
        obtain ⟨M', z9', z10', x8, t1, t2⟩ := ih (n + 1) M1 x2 (pI (ii (gapA A n))) (pI (rkA A n)) (by omega) hw1
        refine ⟨M', z9', z10', x8, ?_, fun b b1 b2 => (t2 b b1 b2).trans (r2 b b1 b2)⟩
        rw [e1, show n + 1 + m = n + (m + 1) by omega] at t1
        rw [if_pos d, q212_98, q212_109, i_1, ii_add]
        have eg : gcA A (n : Int) = gapA A n := by unfold gcA; rw [if_neg (by omega)]
        rw [← eg]
        rw [← eg] at t1
        exact t1
      · rw [if_neg d]
        by_cases d2 : (scanA A n).2 < rkA A n
        · have e1 : scanA A (n + 1) = ((n : Int), rkA A n) := by show (if gapA A n = -1 then _ else _) = _; rw [if_neg c, if_neg d, if_pos d2]
          obtain ⟨M', z9', z10', x8, t1, t2⟩ := ih (n + 1) M1 x2 (pI (ii (gapA A n))) (pI (rkA A n)) (by omega) hw1
          refine ⟨M', z9', z10', x8, ?_, fun b b1 b2 => (t2 b b1 b2).trans (r2 b b1 b2)⟩
          rw [e1, show n + 1 + m = n + (m + 1) by omega] at t1
          rw [if_pos d2, q212_98, q212_109, i_1, ii_add]
          have eg : gcA A (n : Int) = gapA A n := by unfold gcA; rw [if_neg (by omega)]
          rw [← eg]
          rw [← eg] at t1
          exact t1
        · have e1 : scanA A (n + 1) = scanA A n := by show (if gapA A n = -1 then _ else _) = _; rw [if_neg c, if_neg d, if_neg d2]
          obtain ⟨M', z9', z10', x8, t1, t2⟩ := ih (n + 1) M1 x2 (pI (ii (gapA A n))) (pI (rkA A n)) (by omega) hw1
          refine ⟨M', z9', z10', x8, ?_, fun b b1 b2 => (t2 b b1 b2).trans (r2 b b1 b2)⟩
          rw [e1, show n + 1 + m = n + (m + 1) by omega] at t1
          rw [if_neg d2, q212_109, i_1, ii_add]
          exact t1
theorem turn_SP : SP A (turnA A) := hold_SP.tr pay_SP
theorem S212l : ∀ (m : Nat) (i : Int) (A : AT) (M : Mem) (z3 z4 z5 z6 z7 z8 z9 z10 : PV), i + m = A 0 0 → 0 ≤ i → WT M p s A T → ∃ M', ev true 212 0 2 [pR 6 s, pR 5 p, pI (ii i), z3, z4, z5, z6, z7, z8, z9, z10] [] M X = some (.inl none, M', X) ∧ WT M' p s (tursA m A) T ∧ FrT p s M M' := by
  intro m
  induction m with
  | zero =>
    intro i A M z3 z4 z5 z6 z7 z8 z9 z10 h1 h2 h
    have e0 := h.1.1.1
    have g := h.1.2.2.2.2.1.1
    exact ⟨M, by rw [q212_2, e0, ltF (by omega)], h, fun _ _ _ _ => rfl⟩
  | succ m ih =>
    intro i A M z3 z4 z5 z6 z7 z8 z9 z10 h1 h2 h
    obtain ⟨hws, hld, hlw⟩ := h
    have hwz := hws
    obtain ⟨hp, hpl, hs, hL, hi, hT, hd⟩ := hws
    have g := hi.1
    obtain ⟨M1, z9', z10', x8, t1, t2⟩ := S212s (X := X) hld hlw (A 0 3).toNat 0 M (ii i) z9 z10 (by omega) hwz
    rw [Nat.zero_add] at t1
    have t1 : ev true 212 0 27 [pR 6 s, pR 5 p, pI (ii i), pI (ii (-1)), pI (ii (-1)), pI (ii 0), pI (ii 0), pI (ii 0), pI (ii 0), z9, z10] [] M X = _ := t1
    have hw1 := hwz.scr t2
    have f1 : FrT p s M M1 := fun b _ a c => t2 b a c
    have hsc := scan_in (A := A) (A 0 3).toNat
    show ∃ M', _ ∧ WT M' p s (if (scanA A (A 0 3).toNat).1 = -1 then A else tursA m (turnA A)) T ∧ _
    rw [q212_2, hp.1, ltT (by omega), ii_m1, i_0, t1]
    by_cases c : (scanA A (A 0 3).toNat).1 = -1
    · rw [if_pos c, if_pos c]
      exact ⟨M1, rfl, ⟨hw1, hld, hlw⟩, f1⟩
    · rw [if_neg c, if_neg c]
      obtain ⟨ch, hch⟩ : ∃ ch, ch = (scanA A (A 0 3).toNat).1 := ⟨_, rfl⟩
      rw [← hch] at hsc c
      have hgc : gcA A ch = gapA A ch := by unfold gcA; rw [if_neg c]
      have hgp := gap_in hi (j := ch) (by omega) (by omega)
      have hg20 := hgp.2.2 (hsc.2.2 c)
      have hgr : 0 ≤ gapA A ch ∧ gapA A ch < A 0 0 := ⟨by have := hsc.2.2 c; omega, hgp.2.1⟩
      obtain ⟨hp1, -, hs1, -, -, -, -⟩ := hw1
      have hw1 := hwz.scr t2
      have l29 : rl (s + 29) = 6 := hL.2.2.2.2.2.2.2.2.1
      obtain ⟨tu, s2⟩ := hs1.2.1
      obtain ⟨r1, r2⟩ := S88 (X := X) (v := ch) s2 hL.1 hgr.1 hgr.2
      have hs2 : STv (sc M1 (s + 1 + 11) (cR (A 0 0) tu (gapA A ch)) (ii ch)) s (upA A 25 (gapA A ch) ch) := ST_ring hs1 ⟨tu, r2⟩ (fun b hb => by funext y; exact sc_n (by omega)) (fun f hf => upA_f (by omega))
      have v90 : cl (sc M1 (s + 1 + 11) (cR (A 0 0) tu (gapA A ch)) (ii ch)) (s + 29) ch = ii (A 90 ch) := by rw [cl_sn (by omega)]; exact hs1.2.2.2.2.2.2.2.2.1 ch (by omega) (by omega)
      have hs3 : STv _ s (holdA A (gapA A ch) ch) := ST_90 (v := A 90 ch + 1) hs2 (by omega)
      have f2 : FrI s M1 (sc (sc M1 (s + 1 + 11) (cR (A 0 0) tu (gapA A ch)) (ii ch)) (s + 29) ch (ii (A 90 ch + 1))) := (fr_sc (by omega) (by omega)).tr (fr_sc (by omega) (by omega))
      have hw3 : WS _ p s (holdA A (gapA A ch) ch) T := WS.of hw1 hs3 (fun b hb => f2 b (by omega)) hold_SP (hold_INV hi ⟨by omega, by omega⟩ hg20.1)
      have e03 : holdA A (gapA A ch) ch 0 3 = A 0 3 := by rw [holdA_f (by decide) (by decide)]
      obtain ⟨M4, u1, u2, u3⟩ := S71 (X := X) (b := askB A) (x := mskF (fun y => askB A y) (A 0 3).toNat) (c := ch) (sh := shrA A (A 0 3).toNat) hw3 (by rw [e03]; omega) (fun y y1 y2 => by
        rw [e03] at y2
        have hm := mskF_bit (b := fun z => askB A z) (n := (A 0 3).toNat) (i := y.toNat) (by omega) (by omega)
        rw [show ((y.toNat : Nat) : Int) = y by omega] at hm
        rw [hm]
        exact ⟨fun z => z.2, fun z => ⟨by omega, z⟩⟩)
      have htu : turnA A = payA (holdA A (gapA A ch) ch) (askB A) ch (shrA A (A 0 3).toNat) := by unfold turnA; rw [← hch]
      rw [← htu] at u2
      have hh : HLD (turnA A) := by
        rw [htu]
        exact (hold_HLD hld hi hgr ⟨by omega, by omega⟩ hg20.2).mv (by rw [payA_f (by decide)]) (by rw [payA_f (by decide)]) (payA_f (by decide)) (payA_f (by decide))
      obtain ⟨M5, w1, w2, w3⟩ := ih (i + 1) (turnA A) M4 (pI (ii ch)) (pI (ii (gcA A ch))) (pI (scanA A (A 0 3).toNat).2) (pI (ii (shrA A (A 0 3).toNat))) (pI (mskF (fun y => askB A y) (A 0 3).toNat)) (pI x8) z9' z10' (by rw [turn_SP.1]; omega) (by omega) ⟨u2, hh, hlw.sp turn_SP⟩
      refine ⟨M5, ?_, w2, ((f1.tr f2.ot).tr (fun b hb _ _ => u3 b (by omega))).tr w3⟩
      rw [← hch, hgc, r1, kb0, q212_131, i_1, S15 (by omega) (by omega), kb0, v90, ii_add, q212_140, u1, kb0, q212_150, i_1, ii_add, ← hgc]
      exact w1
def allTurnsA (A : AT) : AT := tursA (A 0 0).toNat A
theorem S212 (h : WT M p s A T) : ∃ M', ev true 212 0 0 [pR 6 s, pR 5 p, p0, p0, p0, p0, p0, p0, p0, p0, p0] [] M X = some (.inl none, M', X) ∧ WT M' p s (allTurnsA A) T ∧ FrT p s M M' := by
  have g := h.1.2.2.2.2.1.1
  obtain ⟨M', t1, t2, t3⟩ := S212l (X := X) (A 0 0).toNat 0 A M p0 p0 p0 p0 p0 p0 p0 p0 (by omega) (by omega) h
  exact ⟨M', by rw [q212_0, i_0, t1], t2, t3⟩
end TRN
