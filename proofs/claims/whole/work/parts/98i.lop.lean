/-! each call in the law's loop -/
section LOP
set_option maxRecDepth 100000
variable {a b d : Int} {M M' M0 M1 M2 : Mem} {X X' : PX} {i L w c r pc p2 p3 p4 : Nat} {g : Int} {cas ras was wls : List PV} {v x4 : Int32} {z5 z6 z7 : PV}
theorem in828 : inB 0 (ln 828) = true := by decide +kernel
theorem cmp_s (x : Int64) : lg_cmp x x = 0 := by
  unfold lg_cmp
  rw [if_neg (Int64.lt_irrefl), if_pos rfl]
theorem S22 : ev true 22 0 0 [pR 13 819] [] M X = some (.inl (some (pI (M 819 7))), M, X) := q22_0 M X
theorem kx {m nx : Nat} {K : KT} {ls r : List PV} {X X' : PX} {M' : Mem} {v : PV} : (some ((.inl (some v), M', X') : PRs)).bind (kRet true true m 1 6 nx K ls r X) = K nx ls (v :: r) M' (X'.1, X'.2.1, X'.2.2.1, X.2.2.2.1 + 1, X.2.2.2.2.1 + 6, X.2.2.2.2.2) := rfl
theorem wrp (hq0 : ∀ M X, ev true w 0 0 was [] M X = if X.2.2.2.1 + 1 ≤ mcM w ∧ X.2.2.2.2.1 + 6 ≤ msM w then (ev true c 0 0 cas [] M (enX 1 X)).bind (kRet true true w 1 6 pc (ev true w 0) wls [pI 0, pR 15 828] X) else none) (hq1 : ∀ (y0 y1 : Int32) M X, ev true w 0 pc wls [pI y0, pI y1, pR 15 828] M X = if inB y1 (ln 828) = true then some (.inl (some (pI 0)), M, (y0.toInt64, X.2)) else none) (hm : Nat.ble 1 (mcM w) = true) (hs : Nat.ble 6 (msM w) = true) (hB : BTH i w c cas r ras) (hW : W9 i M) : ∃ M1 g v X1, ev true w 0 0 was [] M (enX 1 X) = some (.inl (some (pI (ii g))), M1, X1) ∧ (0 ≤ g ∧ g ≤ 2) ∧ (∀ b, 819 ≤ b → M1 b = M b) ∧ (g = 0 → X1.1 = v.toInt64) ∧ ∀ X2, ∃ M2, ev true r 0 0 ras [] M1 X2 = some (.inl (some (pI v)), M2, X2) ∧ W9 (i + 1) M2 ∧ M2 819 7 = ii g := by
  have hm := Nat.le_of_ble_eq_true hm
  have hs := Nat.le_of_ble_eq_true hs
  have hc : (enX 1 X).2.2.2.1 + 1 ≤ mcM w ∧ (enX 1 X).2.2.2.2.1 + 6 ≤ msM w := ⟨by show 0 + 1 ≤ _; omega, by show 0 + 6 ≤ _; omega⟩
  rcases hB M (enX 1 (enX 1 X)) hW ⟨rfl, rfl⟩ with ⟨v, M1, a1, a2, a3⟩ | ⟨e, g, v, h1, h2, h3, h4⟩
  · refine ⟨M1, 0, v, _, by rw [hq0, if_pos hc, a1, kx, hq1, if_pos in828]; rfl, by omega, a2, fun _ => rfl, a3⟩
  · refine ⟨M, g, v, bkX true 1 6 (enX 1 X) (thX (enX 1 (enX 1 X))), ?_, by omega, fun _ _ => rfl, fun w => by omega, h4⟩
    rw [hq0, if_pos hc, h3]
    show (match hdF hdT w e with | some c => some ((.inl (some (pI c)), M, bkX true 1 6 (enX 1 X) (thX (enX 1 (enX 1 X)))) : PRs) | none => none) = _
    rw [h1]
/-- behind the class's call: the reference's, and both answers looked at -/
theorem lawW (h2 : ∀ (x4 x5 : Int32) (z6 z7 : PV) (y0 : Int32) (M : Mem) (X : PX), ev true 311 0 p2 [pR 17 0, pR 1 0, pR 13 819, pR 15 828, pI x4, pI x5, z6, z7] [pI y0] M X = (ev true 22 0 0 [pR 13 819] [] M X).bind (kRet true true 311 0 0 p3 (ev true 311 0) [pR 17 0, pR 1 0, pR 13 819, pR 15 828, pI x4, pI x5, pI y0, z7] [] X)) (h3 : ∀ (x4 x5 x6 : Int32) (z7 : PV) (y0 : Int32) (M : Mem) (X : PX), ev true 311 0 p3 [pR 17 0, pR 1 0, pR 13 819, pR 15 828, pI x4, pI x5, pI x6, z7] [pI y0] M X = if y0 = x5 then (if x5 = 0 then (if inB 0 (ln 828) = true then (if (lg_cmp X.1 x6.toInt64) = 0 then (ev true 311 0 p4 [pR 17 0, pR 1 0, pR 13 819, pR 15 828, pI x4, pI x5, pI x6, z7] [] M X) else (if rOK 1 0 = true then some (.inl (some (pI 0)), M, X) else none)) else none) else (ev true 311 0 p4 [pR 17 0, pR 1 0, pR 13 819, pR 15 828, pI x4, pI x5, pI x6, z7] [] M X)) else (if rOK 1 0 = true then some (.inl (some (pI 0)), M, X) else none)) (h4 : ∀ (x4 : Int32) (z5 z6 z7 : PV) (M : Mem) (X : PX), ev true 311 0 p4 [pR 17 0, pR 1 0, pR 13 819, pR 15 828, pI x4, z5, z6, z7] [] M X = ev true 311 0 1664 [pR 17 0, pR 1 0, pR 13 819, pR 15 828, pI x4, z5, z6, z7] [] M X) (hg : 0 ≤ g ∧ g ≤ 2) (hX : g = 0 → X.1 = v.toInt64) (hr : ev true r 0 0 ras [] M1 X = some (.inl (some (pI v)), M2, X)) (h7 : M2 819 7 = ii g) : (ev true r 0 0 ras [] M1 X).bind (kRet true true 311 0 0 p2 (ev true 311 0) [pR 17 0, pR 1 0, pR 13 819, pR 15 828, pI x4, pI (ii g), z6, z7] [] X) = ev true 311 0 1664 [pR 17 0, pR 1 0, pR 13 819, pR 15 828, pI x4, pI (ii g), pI v, z7] [] M2 X := by
  rw [hr, kt1, h2, S22, kt1, h3, h7, if_pos rfl]
  by_cases c : g = 0
  · rw [if_pos (show ii g = 0 by rw [c]; rfl), if_pos in828, hX c, cmp_s, if_pos rfl, h4]
  · rw [if_neg (show ¬ ii g = 0 by rw [i_0, ii_eq (by omega) (by omega) (by omega) (by omega)]; exact c), h4]
/-- what a frame's room says behind i calls -/
def XB (i L : Nat) (X : PX) : Prop := X.2.2.2.2.2 = L ∧ X.2.2.2.1 ≤ 1000 + i ∧ X.2.2.2.2.1 ≤ 500000 + 6 * i
theorem xb_c (h : XB i L X) (hi : i ≤ 600) : X.2.2.2.1 + 1 ≤ mcM 311 ∧ X.2.2.2.2.1 + 6 ≤ msM 311 := by
  have e1 : mcM 311 = 601024 := by decide
  have e2 : msM 311 = 7293034 := by decide
  obtain ⟨a1, a2, a3⟩ := h
  rw [e1, e2]
  omega
theorem xb_n (h : XB i L X) {q : Int64} {n1 n2 : Nat} : XB (i + 1) L (q, n1, n2, X.2.2.2.1 + 1, X.2.2.2.2.1 + 6, X.2.2.2.2.2) := by
  obtain ⟨a1, a2, a3⟩ := h
  refine ⟨a1, ?_, ?_⟩
  · show X.2.2.2.1 + 1 ≤ _; omega
  · show X.2.2.2.2.1 + 6 ≤ _; omega
theorem xb_s (h : XB i L X) : XB (i + 1) L X := by
  obtain ⟨a1, a2, a3⟩ := h
  exact ⟨a1, by omega, by omega⟩
def GO (i L : Nat) (z5 z6 z7 : PV) (M : Mem) (X : PX) : Prop := ∃ M' X' y5 y6 y7, ev true 311 0 23 [pR 17 0, pR 1 0, pR 13 819, pR 15 828, pI (ii (6 * (i : Int))), z5, z6, z7] [] M X = ev true 311 0 1664 [pR 17 0, pR 1 0, pR 13 819, pR 15 828, pI (ii (6 * (i : Int))), y5, y6, y7] [] M' X' ∧ W9 (i + 1) M' ∧ XB (i + 1) L X'

theorem opL_0 (hi : i ≤ 600) (hW : W9 i M) (hX : XB i L X) (hj : 6 * i + 6 ≤ L) (hL : L ≤ 3072) (ho : (M 900 (ii (6 * (i : Int))).toNatClampNeg) &&& 31 = ii 0) : GO i L z5 z6 z7 M X := by
  obtain ⟨a, ea, ha⟩ := ii_ex (M 900 (ii (6 * (i : Int) + 1)).toNatClampNeg)
  obtain ⟨b, eb, hb⟩ := ii_ex (M 900 (ii (6 * (i : Int) + 2)).toNatClampNeg)
  obtain ⟨d, ed, hd⟩ := ii_ex (M 900 (ii (6 * (i : Int) + 3)).toNatClampNeg)
  obtain ⟨e, ee, he⟩ := ii_ex (M 900 (ii (6 * (i : Int) + 4)).toNatClampNeg)
  obtain ⟨f, ef, hf⟩ := ii_ex (M 900 (ii (6 * (i : Int) + 5)).toNatClampNeg)
  obtain ⟨v, M1, a1, hf, a5⟩ := b_feed (i := i) (ii a) (ii b) (ii d) (ii e) (ii f) M X hW
  obtain ⟨M2, b1, b2⟩ := a5 X
  refine ⟨M2, X, z5, z6, z7, ?_, b2, xb_s hX⟩
  rw [qL311_23, hX.1, ii_of, i_6, ii_sub, ltF (by omega), inbT (by omega), ho, if_pos (show ii 0 = (0 : Int32) from rfl), i_1, ii_add, inbT (by omega), i_2, ii_add, inbT (by omega), i_3, ii_add, inbT (by omega), i_4, ii_add, inbT (by omega), i_5, ii_add, inbT (by omega), ea, eb, ed, ee, ef, a1, kt1, qL311_198, hf 900 (by omega), hX.1, i_1, ii_add, inbT (by omega), i_2, ii_add, inbT (by omega), i_3, ii_add, inbT (by omega), i_4, ii_add, inbT (by omega), i_5, ii_add, inbT (by omega), ea, eb, ed, ee, ef, b1, kt1, qL311_232, if_pos rfl]
theorem opL_1 (hi : i ≤ 600) (hW : W9 i M) (hX : XB i L X) (hj : 6 * i + 6 ≤ L) (hL : L ≤ 3072) (ho : (M 900 (ii (6 * (i : Int))).toNatClampNeg) &&& 31 = ii 1) : GO i L z5 z6 z7 M X := by
  obtain ⟨a, ea, ha⟩ := ii_ex (M 900 (ii (6 * (i : Int) + 1)).toNatClampNeg)
  obtain ⟨M1, g, v, X1, a1, a2, hf, a4, a5⟩ := wrp (X := X) (fun M X => q280_0 _ M X) (fun y0 y1 M X => q280_7 _ _ _ _ y0 y1 M X) (by decide) (by decide) (b_belt (i := i) ha) hW
  obtain ⟨X2, eX⟩ : ∃ X2 : PX, X2 = (X1.1, X1.2.1, X1.2.2.1, X.2.2.2.1 + 1, X.2.2.2.2.1 + 6, X.2.2.2.2.2) := ⟨_, rfl⟩
  have hX2 : XB (i + 1) L X2 := by rw [eX]; exact xb_n hX
  have a4 : g = 0 → X2.1 = v.toInt64 := by rw [eX]; exact a4
  obtain ⟨M2, b1, b2, b3⟩ := a5 X2
  refine ⟨M2, X2, pI (ii g), pI v, z7, ?_, b2, hX2⟩
  have hx := xb_c hX hi
  rw [qL311_23, hX.1, ii_of, i_6, ii_sub, ltF (by omega), inbT (by omega), ho, if_neg (show ¬ (ii 1 = (0 : Int32)) by decide), if_pos (show ii 1 = (1 : Int32) from rfl), i_1, ii_add, inbT (by omega), if_pos hx, ea, a1, kx, ← eX, qL311_248, hf 900 (by omega), hX2.1, i_1, ii_add, inbT (by omega), ea]
  exact lawW qL311_260 qL311_266 qL311_290 a2 a4 b1 b3
theorem opL_2 (hi : i ≤ 600) (hW : W9 i M) (hX : XB i L X) (hj : 6 * i + 6 ≤ L) (hL : L ≤ 3072) (ho : (M 900 (ii (6 * (i : Int))).toNatClampNeg) &&& 31 = ii 2) : GO i L z5 z6 z7 M X := by
  obtain ⟨v, M1, a1, hf, a5⟩ := b_fault (i := i) M X hW
  obtain ⟨M2, b1, b2⟩ := a5 X
  refine ⟨M2, X, z5, z6, z7, ?_, b2, xb_s hX⟩
  rw [qL311_23, hX.1, ii_of, i_6, ii_sub, ltF (by omega), inbT (by omega), ho, if_neg (show ¬ (ii 2 = (0 : Int32)) by decide), if_neg (show ¬ (ii 2 = (1 : Int32)) by decide), if_pos (show ii 2 = (2 : Int32) from rfl), a1, kt1, qL311_297, b1, kt1, qL311_301, if_pos rfl]
theorem opL_3 (hi : i ≤ 600) (hW : W9 i M) (hX : XB i L X) (hj : 6 * i + 6 ≤ L) (hL : L ≤ 3072) (ho : (M 900 (ii (6 * (i : Int))).toNatClampNeg) &&& 31 = ii 3) : GO i L z5 z6 z7 M X := by
  obtain ⟨a, ea, ha⟩ := ii_ex (M 900 (ii (6 * (i : Int) + 1)).toNatClampNeg)
  obtain ⟨M1, g, v, X1, a1, a2, hf, a4, a5⟩ := wrp (X := X) (fun M X => q194_0 _ M X) (fun y0 y1 M X => q194_7 _ _ _ _ y0 y1 M X) (by decide) (by decide) (b_count (i := i) hi ha) hW
  obtain ⟨X2, eX⟩ : ∃ X2 : PX, X2 = (X1.1, X1.2.1, X1.2.2.1, X.2.2.2.1 + 1, X.2.2.2.2.1 + 6, X.2.2.2.2.2) := ⟨_, rfl⟩
  have hX2 : XB (i + 1) L X2 := by rw [eX]; exact xb_n hX
  have a4 : g = 0 → X2.1 = v.toInt64 := by rw [eX]; exact a4
  obtain ⟨M2, b1, b2, b3⟩ := a5 X2
  refine ⟨M2, X2, pI (ii g), pI v, z7, ?_, b2, hX2⟩
  have hx := xb_c hX hi
  rw [qL311_23, hX.1, ii_of, i_6, ii_sub, ltF (by omega), inbT (by omega), ho, if_neg (show ¬ (ii 3 = (0 : Int32)) by decide), if_neg (show ¬ (ii 3 = (1 : Int32)) by decide), if_neg (show ¬ (ii 3 = (2 : Int32)) by decide), if_pos (show ii 3 = (3 : Int32) from rfl), i_1, ii_add, inbT (by omega), if_pos hx, ea, a1, kx, ← eX, qL311_317, hf 900 (by omega), hX2.1, i_1, ii_add, inbT (by omega), ea]
  exact lawW qL311_329 qL311_335 qL311_359 a2 a4 b1 b3
theorem opL_4 (hi : i ≤ 600) (hW : W9 i M) (hX : XB i L X) (hj : 6 * i + 6 ≤ L) (hL : L ≤ 3072) (ho : (M 900 (ii (6 * (i : Int))).toNatClampNeg) &&& 31 = ii 4) : GO i L z5 z6 z7 M X := by
  obtain ⟨a, ea, ha⟩ := ii_ex (M 900 (ii (6 * (i : Int) + 1)).toNatClampNeg)
  obtain ⟨b, eb, hb⟩ := ii_ex (M 900 (ii (6 * (i : Int) + 2)).toNatClampNeg)
  obtain ⟨M1, g, v, X1, a1, a2, hf, a4, a5⟩ := wrp (X := X) (fun M X => q223_0 _ _ M X) (fun y0 y1 M X => q223_8 _ _ _ _ _ y0 y1 M X) (by decide) (by decide) (b_place (i := i) hi ha hb) hW
  obtain ⟨X2, eX⟩ : ∃ X2 : PX, X2 = (X1.1, X1.2.1, X1.2.2.1, X.2.2.2.1 + 1, X.2.2.2.2.1 + 6, X.2.2.2.2.2) := ⟨_, rfl⟩
  have hX2 : XB (i + 1) L X2 := by rw [eX]; exact xb_n hX
  have a4 : g = 0 → X2.1 = v.toInt64 := by rw [eX]; exact a4
  obtain ⟨M2, b1, b2, b3⟩ := a5 X2
  refine ⟨M2, X2, pI (ii g), pI v, z7, ?_, b2, hX2⟩
  have hx := xb_c hX hi
  rw [qL311_23, hX.1, ii_of, i_6, ii_sub, ltF (by omega), inbT (by omega), ho, if_neg (show ¬ (ii 4 = (0 : Int32)) by decide), if_neg (show ¬ (ii 4 = (1 : Int32)) by decide), if_neg (show ¬ (ii 4 = (2 : Int32)) by decide), if_neg (show ¬ (ii 4 = (3 : Int32)) by decide), if_pos (show ii 4 = (4 : Int32) from rfl), i_1, ii_add, inbT (by omega), i_2, ii_add, inbT (by omega), if_pos hx, ea, eb, a1, kx, ← eX, qL311_379, hf 900 (by omega), hX2.1, i_1, ii_add, inbT (by omega), i_2, ii_add, inbT (by omega), ea, eb]
  exact lawW qL311_397 qL311_403 qL311_427 a2 a4 b1 b3
theorem opL_5 (hi : i ≤ 600) (hW : W9 i M) (hX : XB i L X) (hj : 6 * i + 6 ≤ L) (hL : L ≤ 3072) (ho : (M 900 (ii (6 * (i : Int))).toNatClampNeg) &&& 31 = ii 5) : GO i L z5 z6 z7 M X := by
  obtain ⟨a, ea, ha⟩ := ii_ex (M 900 (ii (6 * (i : Int) + 1)).toNatClampNeg)
  obtain ⟨b, eb, hb⟩ := ii_ex (M 900 (ii (6 * (i : Int) + 2)).toNatClampNeg)
  obtain ⟨M1, g, v, X1, a1, a2, hf, a4, a5⟩ := wrp (X := X) (fun M X => q242_0 _ _ M X) (fun y0 y1 M X => q242_8 _ _ _ _ _ y0 y1 M X) (by decide) (by decide) (b_exit (i := i) hi ha hb) hW
  obtain ⟨X2, eX⟩ : ∃ X2 : PX, X2 = (X1.1, X1.2.1, X1.2.2.1, X.2.2.2.1 + 1, X.2.2.2.2.1 + 6, X.2.2.2.2.2) := ⟨_, rfl⟩
  have hX2 : XB (i + 1) L X2 := by rw [eX]; exact xb_n hX
  have a4 : g = 0 → X2.1 = v.toInt64 := by rw [eX]; exact a4
  obtain ⟨M2, b1, b2, b3⟩ := a5 X2
  refine ⟨M2, X2, pI (ii g), pI v, z7, ?_, b2, hX2⟩
  have hx := xb_c hX hi
  rw [qL311_23, hX.1, ii_of, i_6, ii_sub, ltF (by omega), inbT (by omega), ho, if_neg (show ¬ (ii 5 = (0 : Int32)) by decide), if_neg (show ¬ (ii 5 = (1 : Int32)) by decide), if_neg (show ¬ (ii 5 = (2 : Int32)) by decide), if_neg (show ¬ (ii 5 = (3 : Int32)) by decide), if_neg (show ¬ (ii 5 = (4 : Int32)) by decide), if_pos (show ii 5 = (5 : Int32) from rfl), i_1, ii_add, inbT (by omega), i_2, ii_add, inbT (by omega), if_pos hx, ea, eb, a1, kx, ← eX, qL311_447, hf 900 (by omega), hX2.1, i_1, ii_add, inbT (by omega), i_2, ii_add, inbT (by omega), ea, eb]
  exact lawW qL311_465 qL311_471 qL311_495 a2 a4 b1 b3
theorem opL_6 (hi : i ≤ 600) (hW : W9 i M) (hX : XB i L X) (hj : 6 * i + 6 ≤ L) (hL : L ≤ 3072) (ho : (M 900 (ii (6 * (i : Int))).toNatClampNeg) &&& 31 = ii 6) : GO i L z5 z6 z7 M X := by
  obtain ⟨a, ea, ha⟩ := ii_ex (M 900 (ii (6 * (i : Int) + 1)).toNatClampNeg)
  obtain ⟨b, eb, hb⟩ := ii_ex (M 900 (ii (6 * (i : Int) + 2)).toNatClampNeg)
  obtain ⟨M1, g, v, X1, a1, a2, hf, a4, a5⟩ := wrp (X := X) (fun M X => q224_0 _ _ M X) (fun y0 y1 M X => q224_8 _ _ _ _ _ y0 y1 M X) (by decide) (by decide) (b_ware (i := i) hi ha hb) hW
  obtain ⟨X2, eX⟩ : ∃ X2 : PX, X2 = (X1.1, X1.2.1, X1.2.2.1, X.2.2.2.1 + 1, X.2.2.2.2.1 + 6, X.2.2.2.2.2) := ⟨_, rfl⟩
  have hX2 : XB (i + 1) L X2 := by rw [eX]; exact xb_n hX
  have a4 : g = 0 → X2.1 = v.toInt64 := by rw [eX]; exact a4
  obtain ⟨M2, b1, b2, b3⟩ := a5 X2
  refine ⟨M2, X2, pI (ii g), pI v, z7, ?_, b2, hX2⟩
  have hx := xb_c hX hi
  rw [qL311_23, hX.1, ii_of, i_6, ii_sub, ltF (by omega), inbT (by omega), ho, if_neg (show ¬ (ii 6 = (0 : Int32)) by decide), if_neg (show ¬ (ii 6 = (1 : Int32)) by decide), if_neg (show ¬ (ii 6 = (2 : Int32)) by decide), if_neg (show ¬ (ii 6 = (3 : Int32)) by decide), if_neg (show ¬ (ii 6 = (4 : Int32)) by decide), if_neg (show ¬ (ii 6 = (5 : Int32)) by decide), if_pos (show ii 6 = ii 6 from rfl), i_1, ii_add, inbT (by omega), i_2, ii_add, inbT (by omega), if_pos hx, ea, eb, a1, kx, ← eX, qL311_515, hf 900 (by omega), hX2.1, i_1, ii_add, inbT (by omega), i_2, ii_add, inbT (by omega), ea, eb]
  exact lawW qL311_533 qL311_539 qL311_563 a2 a4 b1 b3
theorem opL_7 (hi : i ≤ 600) (hW : W9 i M) (hX : XB i L X) (hj : 6 * i + 6 ≤ L) (hL : L ≤ 3072) (ho : (M 900 (ii (6 * (i : Int))).toNatClampNeg) &&& 31 = ii 7) : GO i L z5 z6 z7 M X := by
  obtain ⟨a, ea, ha⟩ := ii_ex (M 900 (ii (6 * (i : Int) + 1)).toNatClampNeg)
  obtain ⟨b, eb, hb⟩ := ii_ex (M 900 (ii (6 * (i : Int) + 2)).toNatClampNeg)
  obtain ⟨M1, g, v, X1, a1, a2, hf, a4, a5⟩ := wrp (X := X) (fun M X => q225_0 _ _ M X) (fun y0 y1 M X => q225_8 _ _ _ _ _ y0 y1 M X) (by decide) (by decide) (b_side (i := i) hi ha hb) hW
  obtain ⟨X2, eX⟩ : ∃ X2 : PX, X2 = (X1.1, X1.2.1, X1.2.2.1, X.2.2.2.1 + 1, X.2.2.2.2.1 + 6, X.2.2.2.2.2) := ⟨_, rfl⟩
  have hX2 : XB (i + 1) L X2 := by rw [eX]; exact xb_n hX
  have a4 : g = 0 → X2.1 = v.toInt64 := by rw [eX]; exact a4
  obtain ⟨M2, b1, b2, b3⟩ := a5 X2
  refine ⟨M2, X2, pI (ii g), pI v, z7, ?_, b2, hX2⟩
  have hx := xb_c hX hi
  rw [qL311_23, hX.1, ii_of, i_6, ii_sub, ltF (by omega), inbT (by omega), ho, if_neg (show ¬ (ii 7 = (0 : Int32)) by decide), if_neg (show ¬ (ii 7 = (1 : Int32)) by decide), if_neg (show ¬ (ii 7 = (2 : Int32)) by decide), if_neg (show ¬ (ii 7 = (3 : Int32)) by decide), if_neg (show ¬ (ii 7 = (4 : Int32)) by decide), if_neg (show ¬ (ii 7 = (5 : Int32)) by decide), if_neg (show ¬ (ii 7 = ii 6) by decide), if_pos (show ii 7 = (7 : Int32) from rfl), i_1, ii_add, inbT (by omega), i_2, ii_add, inbT (by omega), if_pos hx, ea, eb, a1, kx, ← eX, qL311_583, hf 900 (by omega), hX2.1, i_1, ii_add, inbT (by omega), i_2, ii_add, inbT (by omega), ea, eb]
  exact lawW qL311_601 qL311_607 qL311_631 a2 a4 b1 b3
theorem opL_8 (hi : i ≤ 600) (hW : W9 i M) (hX : XB i L X) (hj : 6 * i + 6 ≤ L) (hL : L ≤ 3072) (ho : (M 900 (ii (6 * (i : Int))).toNatClampNeg) &&& 31 = ii 8) : GO i L z5 z6 z7 M X := by
  obtain ⟨a, ea, ha⟩ := ii_ex (M 900 (ii (6 * (i : Int) + 1)).toNatClampNeg)
  obtain ⟨b, eb, hb⟩ := ii_ex (M 900 (ii (6 * (i : Int) + 2)).toNatClampNeg)
  obtain ⟨M1, g, v, X1, a1, a2, hf, a4, a5⟩ := wrp (X := X) (fun M X => q195_0 _ _ M X) (fun y0 y1 M X => q195_8 _ _ _ _ _ y0 y1 M X) (by decide) (by decide) (b_waiting (i := i) hi ha hb) hW
  obtain ⟨X2, eX⟩ : ∃ X2 : PX, X2 = (X1.1, X1.2.1, X1.2.2.1, X.2.2.2.1 + 1, X.2.2.2.2.1 + 6, X.2.2.2.2.2) := ⟨_, rfl⟩
  have hX2 : XB (i + 1) L X2 := by rw [eX]; exact xb_n hX
  have a4 : g = 0 → X2.1 = v.toInt64 := by rw [eX]; exact a4
  obtain ⟨M2, b1, b2, b3⟩ := a5 X2
  refine ⟨M2, X2, pI (ii g), pI v, z7, ?_, b2, hX2⟩
  have hx := xb_c hX hi
  rw [qL311_23, hX.1, ii_of, i_6, ii_sub, ltF (by omega), inbT (by omega), ho, if_neg (show ¬ (ii 8 = (0 : Int32)) by decide), if_neg (show ¬ (ii 8 = (1 : Int32)) by decide), if_neg (show ¬ (ii 8 = (2 : Int32)) by decide), if_neg (show ¬ (ii 8 = (3 : Int32)) by decide), if_neg (show ¬ (ii 8 = (4 : Int32)) by decide), if_neg (show ¬ (ii 8 = (5 : Int32)) by decide), if_neg (show ¬ (ii 8 = ii 6) by decide), if_neg (show ¬ (ii 8 = (7 : Int32)) by decide), if_pos (show ii 8 = (8 : Int32) from rfl), i_1, ii_add, inbT (by omega), i_2, ii_add, inbT (by omega), if_pos hx, ea, eb, a1, kx, ← eX, qL311_651, hf 900 (by omega), hX2.1, i_1, ii_add, inbT (by omega), i_2, ii_add, inbT (by omega), ea, eb]
  exact lawW qL311_669 qL311_675 qL311_699 a2 a4 b1 b3
theorem opL_9 (hi : i ≤ 600) (hW : W9 i M) (hX : XB i L X) (hj : 6 * i + 6 ≤ L) (hL : L ≤ 3072) (ho : (M 900 (ii (6 * (i : Int))).toNatClampNeg) &&& 31 = ii 9) : GO i L z5 z6 z7 M X := by
  obtain ⟨a, ea, ha⟩ := ii_ex (M 900 (ii (6 * (i : Int) + 1)).toNatClampNeg)
  obtain ⟨b, eb, hb⟩ := ii_ex (M 900 (ii (6 * (i : Int) + 2)).toNatClampNeg)
  obtain ⟨M1, g, v, X1, a1, a2, hf, a4, a5⟩ := wrp (X := X) (fun M X => q196_0 _ _ M X) (fun y0 y1 M X => q196_8 _ _ _ _ _ y0 y1 M X) (by decide) (by decide) (b_coming (i := i) hi ha hb) hW
  obtain ⟨X2, eX⟩ : ∃ X2 : PX, X2 = (X1.1, X1.2.1, X1.2.2.1, X.2.2.2.1 + 1, X.2.2.2.2.1 + 6, X.2.2.2.2.2) := ⟨_, rfl⟩
  have hX2 : XB (i + 1) L X2 := by rw [eX]; exact xb_n hX
  have a4 : g = 0 → X2.1 = v.toInt64 := by rw [eX]; exact a4
  obtain ⟨M2, b1, b2, b3⟩ := a5 X2
  refine ⟨M2, X2, pI (ii g), pI v, z7, ?_, b2, hX2⟩
  have hx := xb_c hX hi
  rw [qL311_23, hX.1, ii_of, i_6, ii_sub, ltF (by omega), inbT (by omega), ho, if_neg (show ¬ (ii 9 = (0 : Int32)) by decide), if_neg (show ¬ (ii 9 = (1 : Int32)) by decide), if_neg (show ¬ (ii 9 = (2 : Int32)) by decide), if_neg (show ¬ (ii 9 = (3 : Int32)) by decide), if_neg (show ¬ (ii 9 = (4 : Int32)) by decide), if_neg (show ¬ (ii 9 = (5 : Int32)) by decide), if_neg (show ¬ (ii 9 = ii 6) by decide), if_neg (show ¬ (ii 9 = (7 : Int32)) by decide), if_neg (show ¬ (ii 9 = (8 : Int32)) by decide), if_pos (show ii 9 = (9 : Int32) from rfl), i_1, ii_add, inbT (by omega), i_2, ii_add, inbT (by omega), if_pos hx, ea, eb, a1, kx, ← eX, qL311_719, hf 900 (by omega), hX2.1, i_1, ii_add, inbT (by omega), i_2, ii_add, inbT (by omega), ea, eb]
  exact lawW qL311_737 qL311_743 qL311_767 a2 a4 b1 b3
theorem opL_10 (hi : i ≤ 600) (hW : W9 i M) (hX : XB i L X) (hj : 6 * i + 6 ≤ L) (hL : L ≤ 3072) (ho : (M 900 (ii (6 * (i : Int))).toNatClampNeg) &&& 31 = ii 10) : GO i L z5 z6 z7 M X := by
  obtain ⟨a, ea, ha⟩ := ii_ex (M 900 (ii (6 * (i : Int) + 1)).toNatClampNeg)
  obtain ⟨b, eb, hb⟩ := ii_ex (M 900 (ii (6 * (i : Int) + 2)).toNatClampNeg)
  obtain ⟨M1, g, v, X1, a1, a2, hf, a4, a5⟩ := wrp (X := X) (fun M X => q197_0 _ _ M X) (fun y0 y1 M X => q197_8 _ _ _ _ _ y0 y1 M X) (by decide) (by decide) (b_log (i := i) hi ha hb) hW
  obtain ⟨X2, eX⟩ : ∃ X2 : PX, X2 = (X1.1, X1.2.1, X1.2.2.1, X.2.2.2.1 + 1, X.2.2.2.2.1 + 6, X.2.2.2.2.2) := ⟨_, rfl⟩
  have hX2 : XB (i + 1) L X2 := by rw [eX]; exact xb_n hX
  have a4 : g = 0 → X2.1 = v.toInt64 := by rw [eX]; exact a4
  obtain ⟨M2, b1, b2, b3⟩ := a5 X2
  refine ⟨M2, X2, pI (ii g), pI v, z7, ?_, b2, hX2⟩
  have hx := xb_c hX hi
  rw [qL311_23, hX.1, ii_of, i_6, ii_sub, ltF (by omega), inbT (by omega), ho, if_neg (show ¬ (ii 10 = (0 : Int32)) by decide), if_neg (show ¬ (ii 10 = (1 : Int32)) by decide), if_neg (show ¬ (ii 10 = (2 : Int32)) by decide), if_neg (show ¬ (ii 10 = (3 : Int32)) by decide), if_neg (show ¬ (ii 10 = (4 : Int32)) by decide), if_neg (show ¬ (ii 10 = (5 : Int32)) by decide), if_neg (show ¬ (ii 10 = ii 6) by decide), if_neg (show ¬ (ii 10 = (7 : Int32)) by decide), if_neg (show ¬ (ii 10 = (8 : Int32)) by decide), if_neg (show ¬ (ii 10 = (9 : Int32)) by decide), if_pos (show ii 10 = (10 : Int32) from rfl), i_1, ii_add, inbT (by omega), i_2, ii_add, inbT (by omega), if_pos hx, ea, eb, a1, kx, ← eX, qL311_787, hf 900 (by omega), hX2.1, i_1, ii_add, inbT (by omega), i_2, ii_add, inbT (by omega), ea, eb]
  exact lawW qL311_805 qL311_811 qL311_835 a2 a4 b1 b3
theorem opL_11 (hi : i ≤ 600) (hW : W9 i M) (hX : XB i L X) (hj : 6 * i + 6 ≤ L) (hL : L ≤ 3072) (ho : (M 900 (ii (6 * (i : Int))).toNatClampNeg) &&& 31 = ii 11) : GO i L z5 z6 z7 M X := by
  obtain ⟨a, ea, ha⟩ := ii_ex (M 900 (ii (6 * (i : Int) + 1)).toNatClampNeg)
  obtain ⟨M1, g, v, X1, a1, a2, hf, a4, a5⟩ := wrp (X := X) (fun M X => q267_0 _ M X) (fun y0 y1 M X => q267_7 _ _ _ _ y0 y1 M X) (by decide) (by decide) (b_ticks (i := i) hi ha) hW
  obtain ⟨X2, eX⟩ : ∃ X2 : PX, X2 = (X1.1, X1.2.1, X1.2.2.1, X.2.2.2.1 + 1, X.2.2.2.2.1 + 6, X.2.2.2.2.2) := ⟨_, rfl⟩
  have hX2 : XB (i + 1) L X2 := by rw [eX]; exact xb_n hX
  have a4 : g = 0 → X2.1 = v.toInt64 := by rw [eX]; exact a4
  obtain ⟨M2, b1, b2, b3⟩ := a5 X2
  refine ⟨M2, X2, pI (ii g), pI v, z7, ?_, b2, hX2⟩
  have hx := xb_c hX hi
  rw [qL311_23, hX.1, ii_of, i_6, ii_sub, ltF (by omega), inbT (by omega), ho, if_neg (show ¬ (ii 11 = (0 : Int32)) by decide), if_neg (show ¬ (ii 11 = (1 : Int32)) by decide), if_neg (show ¬ (ii 11 = (2 : Int32)) by decide), if_neg (show ¬ (ii 11 = (3 : Int32)) by decide), if_neg (show ¬ (ii 11 = (4 : Int32)) by decide), if_neg (show ¬ (ii 11 = (5 : Int32)) by decide), if_neg (show ¬ (ii 11 = ii 6) by decide), if_neg (show ¬ (ii 11 = (7 : Int32)) by decide), if_neg (show ¬ (ii 11 = (8 : Int32)) by decide), if_neg (show ¬ (ii 11 = (9 : Int32)) by decide), if_neg (show ¬ (ii 11 = (10 : Int32)) by decide), if_pos (show ii 11 = (11 : Int32) from rfl), i_1, ii_add, inbT (by omega), if_pos hx, ea, a1, kx, ← eX, qL311_849, hf 900 (by omega), hX2.1, i_1, ii_add, inbT (by omega), ea]
  exact lawW qL311_861 qL311_867 qL311_891 a2 a4 b1 b3
theorem opL_12 (hi : i ≤ 600) (hW : W9 i M) (hX : XB i L X) (hj : 6 * i + 6 ≤ L) (hL : L ≤ 3072) (ho : (M 900 (ii (6 * (i : Int))).toNatClampNeg) &&& 31 = ii 12) : GO i L z5 z6 z7 M X := by
  obtain ⟨a, ea, ha⟩ := ii_ex (M 900 (ii (6 * (i : Int) + 1)).toNatClampNeg)
  obtain ⟨b, eb, hb⟩ := ii_ex (M 900 (ii (6 * (i : Int) + 2)).toNatClampNeg)
  obtain ⟨v, M1, a1, hf, a5⟩ := b_push (i := i) hi ha hb M X hW
  obtain ⟨M2, b1, b2⟩ := a5 X
  refine ⟨M2, X, z5, z6, z7, ?_, b2, xb_s hX⟩
  rw [qL311_23, hX.1, ii_of, i_6, ii_sub, ltF (by omega), inbT (by omega), ho, if_neg (show ¬ (ii 12 = (0 : Int32)) by decide), if_neg (show ¬ (ii 12 = (1 : Int32)) by decide), if_neg (show ¬ (ii 12 = (2 : Int32)) by decide), if_neg (show ¬ (ii 12 = (3 : Int32)) by decide), if_neg (show ¬ (ii 12 = (4 : Int32)) by decide), if_neg (show ¬ (ii 12 = (5 : Int32)) by decide), if_neg (show ¬ (ii 12 = ii 6) by decide), if_neg (show ¬ (ii 12 = (7 : Int32)) by decide), if_neg (show ¬ (ii 12 = (8 : Int32)) by decide), if_neg (show ¬ (ii 12 = (9 : Int32)) by decide), if_neg (show ¬ (ii 12 = (10 : Int32)) by decide), if_neg (show ¬ (ii 12 = (11 : Int32)) by decide), if_pos (show ii 12 = (12 : Int32) from rfl), i_1, ii_add, inbT (by omega), i_2, ii_add, inbT (by omega), ea, eb, a1, kt1, qL311_910, hf 900 (by omega), hX.1, i_1, ii_add, inbT (by omega), i_2, ii_add, inbT (by omega), ea, eb, b1, kt1, qL311_926, if_pos rfl]
theorem opL_13 (hi : i ≤ 600) (hW : W9 i M) (hX : XB i L X) (hj : 6 * i + 6 ≤ L) (hL : L ≤ 3072) (ho : (M 900 (ii (6 * (i : Int))).toNatClampNeg) &&& 31 = ii 13) : GO i L z5 z6 z7 M X := by
  obtain ⟨a, ea, ha⟩ := ii_ex (M 900 (ii (6 * (i : Int) + 1)).toNatClampNeg)
  obtain ⟨b, eb, hb⟩ := ii_ex (M 900 (ii (6 * (i : Int) + 2)).toNatClampNeg)
  obtain ⟨M1, g, v, X1, a1, a2, hf, a4, a5⟩ := wrp (X := X) (fun M X => q255_0 _ _ M X) (fun y0 y1 M X => q255_8 _ _ _ _ _ y0 y1 M X) (by decide) (by decide) (b_shut (i := i) ha hb) hW
  obtain ⟨X2, eX⟩ : ∃ X2 : PX, X2 = (X1.1, X1.2.1, X1.2.2.1, X.2.2.2.1 + 1, X.2.2.2.2.1 + 6, X.2.2.2.2.2) := ⟨_, rfl⟩
  have hX2 : XB (i + 1) L X2 := by rw [eX]; exact xb_n hX
  have a4 : g = 0 → X2.1 = v.toInt64 := by rw [eX]; exact a4
  obtain ⟨M2, b1, b2, b3⟩ := a5 X2
  refine ⟨M2, X2, pI (ii g), pI v, z7, ?_, b2, hX2⟩
  have hx := xb_c hX hi
  rw [qL311_23, hX.1, ii_of, i_6, ii_sub, ltF (by omega), inbT (by omega), ho, if_neg (show ¬ (ii 13 = (0 : Int32)) by decide), if_neg (show ¬ (ii 13 = (1 : Int32)) by decide), if_neg (show ¬ (ii 13 = (2 : Int32)) by decide), if_neg (show ¬ (ii 13 = (3 : Int32)) by decide), if_neg (show ¬ (ii 13 = (4 : Int32)) by decide), if_neg (show ¬ (ii 13 = (5 : Int32)) by decide), if_neg (show ¬ (ii 13 = ii 6) by decide), if_neg (show ¬ (ii 13 = (7 : Int32)) by decide), if_neg (show ¬ (ii 13 = (8 : Int32)) by decide), if_neg (show ¬ (ii 13 = (9 : Int32)) by decide), if_neg (show ¬ (ii 13 = (10 : Int32)) by decide), if_neg (show ¬ (ii 13 = (11 : Int32)) by decide), if_neg (show ¬ (ii 13 = (12 : Int32)) by decide), if_pos (show ii 13 = (13 : Int32) from rfl), i_1, ii_add, inbT (by omega), i_2, ii_add, inbT (by omega), if_pos hx, ea, eb, a1, kx, ← eX, qL311_948, hf 900 (by omega), hX2.1, i_1, ii_add, inbT (by omega), i_2, ii_add, inbT (by omega), ea, eb]
  exact lawW qL311_966 qL311_972 qL311_996 a2 a4 b1 b3
theorem opL_14 (hi : i ≤ 600) (hW : W9 i M) (hX : XB i L X) (hj : 6 * i + 6 ≤ L) (hL : L ≤ 3072) (ho : (M 900 (ii (6 * (i : Int))).toNatClampNeg) &&& 31 = ii 14) : GO i L z5 z6 z7 M X := by
  obtain ⟨a, ea, ha⟩ := ii_ex (M 900 (ii (6 * (i : Int) + 1)).toNatClampNeg)
  obtain ⟨b, eb, hb⟩ := ii_ex (M 900 (ii (6 * (i : Int) + 2)).toNatClampNeg)
  obtain ⟨d, ed, hd⟩ := ii_ex (M 900 (ii (6 * (i : Int) + 3)).toNatClampNeg)
  obtain ⟨M1, g, v, X1, a1, a2, hf, a4, a5⟩ := wrp (X := X) (fun M X => q256_0 _ _ _ M X) (fun y0 y1 M X => q256_10 _ _ _ _ _ _ y0 y1 M X) (by decide) (by decide) (b_change (i := i) ha hb hd) hW
  obtain ⟨X2, eX⟩ : ∃ X2 : PX, X2 = (X1.1, X1.2.1, X1.2.2.1, X.2.2.2.1 + 1, X.2.2.2.2.1 + 6, X.2.2.2.2.2) := ⟨_, rfl⟩
  have hX2 : XB (i + 1) L X2 := by rw [eX]; exact xb_n hX
  have a4 : g = 0 → X2.1 = v.toInt64 := by rw [eX]; exact a4
  obtain ⟨M2, b1, b2, b3⟩ := a5 X2
  refine ⟨M2, X2, pI (ii g), pI v, z7, ?_, b2, hX2⟩
  have hx := xb_c hX hi
  rw [qL311_23, hX.1, ii_of, i_6, ii_sub, ltF (by omega), inbT (by omega), ho, if_neg (show ¬ (ii 14 = (0 : Int32)) by decide), if_neg (show ¬ (ii 14 = (1 : Int32)) by decide), if_neg (show ¬ (ii 14 = (2 : Int32)) by decide), if_neg (show ¬ (ii 14 = (3 : Int32)) by decide), if_neg (show ¬ (ii 14 = (4 : Int32)) by decide), if_neg (show ¬ (ii 14 = (5 : Int32)) by decide), if_neg (show ¬ (ii 14 = ii 6) by decide), if_neg (show ¬ (ii 14 = (7 : Int32)) by decide), if_neg (show ¬ (ii 14 = (8 : Int32)) by decide), if_neg (show ¬ (ii 14 = (9 : Int32)) by decide), if_neg (show ¬ (ii 14 = (10 : Int32)) by decide), if_neg (show ¬ (ii 14 = (11 : Int32)) by decide), if_neg (show ¬ (ii 14 = (12 : Int32)) by decide), if_neg (show ¬ (ii 14 = (13 : Int32)) by decide), if_pos (show ii 14 = (14 : Int32) from rfl), i_1, ii_add, inbT (by omega), i_2, ii_add, inbT (by omega), i_3, ii_add, inbT (by omega), if_pos hx, ea, eb, ed, a1, kx, ← eX, qL311_1022, hf 900 (by omega), hX2.1, i_1, ii_add, inbT (by omega), i_2, ii_add, inbT (by omega), i_3, ii_add, inbT (by omega), ea, eb, ed]
  exact lawW qL311_1046 qL311_1052 qL311_1076 a2 a4 b1 b3
theorem opL_15 (hi : i ≤ 600) (hW : W9 i M) (hX : XB i L X) (hj : 6 * i + 6 ≤ L) (hL : L ≤ 3072) (ho : (M 900 (ii (6 * (i : Int))).toNatClampNeg) &&& 31 = ii 15) : GO i L z5 z6 z7 M X := by
  obtain ⟨v, M1, a1, hf, a5⟩ := b_undo (i := i) M X hW
  obtain ⟨M2, b1, b2⟩ := a5 X
  refine ⟨M2, X, z5, z6, z7, ?_, b2, xb_s hX⟩
  rw [qL311_23, hX.1, ii_of, i_6, ii_sub, ltF (by omega), inbT (by omega), ho, if_neg (show ¬ (ii 15 = (0 : Int32)) by decide), if_neg (show ¬ (ii 15 = (1 : Int32)) by decide), if_neg (show ¬ (ii 15 = (2 : Int32)) by decide), if_neg (show ¬ (ii 15 = (3 : Int32)) by decide), if_neg (show ¬ (ii 15 = (4 : Int32)) by decide), if_neg (show ¬ (ii 15 = (5 : Int32)) by decide), if_neg (show ¬ (ii 15 = ii 6) by decide), if_neg (show ¬ (ii 15 = (7 : Int32)) by decide), if_neg (show ¬ (ii 15 = (8 : Int32)) by decide), if_neg (show ¬ (ii 15 = (9 : Int32)) by decide), if_neg (show ¬ (ii 15 = (10 : Int32)) by decide), if_neg (show ¬ (ii 15 = (11 : Int32)) by decide), if_neg (show ¬ (ii 15 = (12 : Int32)) by decide), if_neg (show ¬ (ii 15 = (13 : Int32)) by decide), if_neg (show ¬ (ii 15 = (14 : Int32)) by decide), if_pos (show ii 15 = (15 : Int32) from rfl), a1, kt1, qL311_1083, b1, kt1, qL311_1087, if_pos rfl]
theorem opL_16 (hi : i ≤ 600) (hW : W9 i M) (hX : XB i L X) (hj : 6 * i + 6 ≤ L) (hL : L ≤ 3072) (ho : (M 900 (ii (6 * (i : Int))).toNatClampNeg) &&& 31 = ii 16) : GO i L z5 z6 z7 M X := by
  obtain ⟨a, ea, ha⟩ := ii_ex (M 900 (ii (6 * (i : Int) + 1)).toNatClampNeg)
  obtain ⟨b, eb, hb⟩ := ii_ex (M 900 (ii (6 * (i : Int) + 2)).toNatClampNeg)
  obtain ⟨M1, g, v, X1, a1, a2, hf, a4, a5⟩ := wrp (X := X) (fun M X => q268_0 _ _ M X) (fun y0 y1 M X => q268_8 _ _ _ _ _ y0 y1 M X) (by decide) (by decide) (b_trial (i := i) hi ha hb) hW
  obtain ⟨X2, eX⟩ : ∃ X2 : PX, X2 = (X1.1, X1.2.1, X1.2.2.1, X.2.2.2.1 + 1, X.2.2.2.2.1 + 6, X.2.2.2.2.2) := ⟨_, rfl⟩
  have hX2 : XB (i + 1) L X2 := by rw [eX]; exact xb_n hX
  have a4 : g = 0 → X2.1 = v.toInt64 := by rw [eX]; exact a4
  obtain ⟨M2, b1, b2, b3⟩ := a5 X2
  refine ⟨M2, X2, pI (ii g), pI v, z7, ?_, b2, hX2⟩
  have hx := xb_c hX hi
  rw [qL311_23, hX.1, ii_of, i_6, ii_sub, ltF (by omega), inbT (by omega), ho, if_neg (show ¬ (ii 16 = (0 : Int32)) by decide), if_neg (show ¬ (ii 16 = (1 : Int32)) by decide), if_neg (show ¬ (ii 16 = (2 : Int32)) by decide), if_neg (show ¬ (ii 16 = (3 : Int32)) by decide), if_neg (show ¬ (ii 16 = (4 : Int32)) by decide), if_neg (show ¬ (ii 16 = (5 : Int32)) by decide), if_neg (show ¬ (ii 16 = ii 6) by decide), if_neg (show ¬ (ii 16 = (7 : Int32)) by decide), if_neg (show ¬ (ii 16 = (8 : Int32)) by decide), if_neg (show ¬ (ii 16 = (9 : Int32)) by decide), if_neg (show ¬ (ii 16 = (10 : Int32)) by decide), if_neg (show ¬ (ii 16 = (11 : Int32)) by decide), if_neg (show ¬ (ii 16 = (12 : Int32)) by decide), if_neg (show ¬ (ii 16 = (13 : Int32)) by decide), if_neg (show ¬ (ii 16 = (14 : Int32)) by decide), if_neg (show ¬ (ii 16 = (15 : Int32)) by decide), if_pos (show ii 16 = (16 : Int32) from rfl), i_1, ii_add, inbT (by omega), i_2, ii_add, inbT (by omega), if_pos hx, ea, eb, a1, kx, ← eX, qL311_1109, hf 900 (by omega), hX2.1, i_1, ii_add, inbT (by omega), i_2, ii_add, inbT (by omega), ea, eb]
  exact lawW qL311_1127 qL311_1133 qL311_1157 a2 a4 b1 b3
theorem opL_17 (hi : i ≤ 600) (hW : W9 i M) (hX : XB i L X) (hj : 6 * i + 6 ≤ L) (hL : L ≤ 3072) (ho : (M 900 (ii (6 * (i : Int))).toNatClampNeg) &&& 31 = ii 17) : GO i L z5 z6 z7 M X := by
  obtain ⟨a, ea, ha⟩ := ii_ex (M 900 (ii (6 * (i : Int) + 1)).toNatClampNeg)
  obtain ⟨M1, g, v, X1, a1, a2, hf, a4, a5⟩ := wrp (X := X) (fun M X => q269_0 _ M X) (fun y0 y1 M X => q269_7 _ _ _ _ y0 y1 M X) (by decide) (by decide) (b_again (i := i) hi ha) hW
  obtain ⟨X2, eX⟩ : ∃ X2 : PX, X2 = (X1.1, X1.2.1, X1.2.2.1, X.2.2.2.1 + 1, X.2.2.2.2.1 + 6, X.2.2.2.2.2) := ⟨_, rfl⟩
  have hX2 : XB (i + 1) L X2 := by rw [eX]; exact xb_n hX
  have a4 : g = 0 → X2.1 = v.toInt64 := by rw [eX]; exact a4
  obtain ⟨M2, b1, b2, b3⟩ := a5 X2
  refine ⟨M2, X2, pI (ii g), pI v, z7, ?_, b2, hX2⟩
  have hx := xb_c hX hi
  rw [qL311_23, hX.1, ii_of, i_6, ii_sub, ltF (by omega), inbT (by omega), ho, if_neg (show ¬ (ii 17 = (0 : Int32)) by decide), if_neg (show ¬ (ii 17 = (1 : Int32)) by decide), if_neg (show ¬ (ii 17 = (2 : Int32)) by decide), if_neg (show ¬ (ii 17 = (3 : Int32)) by decide), if_neg (show ¬ (ii 17 = (4 : Int32)) by decide), if_neg (show ¬ (ii 17 = (5 : Int32)) by decide), if_neg (show ¬ (ii 17 = ii 6) by decide), if_neg (show ¬ (ii 17 = (7 : Int32)) by decide), if_neg (show ¬ (ii 17 = (8 : Int32)) by decide), if_neg (show ¬ (ii 17 = (9 : Int32)) by decide), if_neg (show ¬ (ii 17 = (10 : Int32)) by decide), if_neg (show ¬ (ii 17 = (11 : Int32)) by decide), if_neg (show ¬ (ii 17 = (12 : Int32)) by decide), if_neg (show ¬ (ii 17 = (13 : Int32)) by decide), if_neg (show ¬ (ii 17 = (14 : Int32)) by decide), if_neg (show ¬ (ii 17 = (15 : Int32)) by decide), if_neg (show ¬ (ii 17 = (16 : Int32)) by decide), if_pos (show ii 17 = (17 : Int32) from rfl), i_1, ii_add, inbT (by omega), if_pos hx, ea, a1, kx, ← eX, qL311_1171, hf 900 (by omega), hX2.1, i_1, ii_add, inbT (by omega), ea]
  exact lawW qL311_1183 qL311_1189 qL311_1213 a2 a4 b1 b3
theorem opL_18 (hi : i ≤ 600) (hW : W9 i M) (hX : XB i L X) (hj : 6 * i + 6 ≤ L) (hL : L ≤ 3072) (ho : (M 900 (ii (6 * (i : Int))).toNatClampNeg) &&& 31 = ii 18) : GO i L z5 z6 z7 M X := by
  obtain ⟨a, ea, ha⟩ := ii_ex (M 900 (ii (6 * (i : Int) + 1)).toNatClampNeg)
  obtain ⟨b, eb, hb⟩ := ii_ex (M 900 (ii (6 * (i : Int) + 2)).toNatClampNeg)
  obtain ⟨M1, g, v, X1, a1, a2, hf, a4, a5⟩ := wrp (X := X) (fun M X => q270_0 _ _ M X) (fun y0 y1 M X => q270_8 _ _ _ _ _ y0 y1 M X) (by decide) (by decide) (b_rate (i := i) hi ha hb) hW
  obtain ⟨X2, eX⟩ : ∃ X2 : PX, X2 = (X1.1, X1.2.1, X1.2.2.1, X.2.2.2.1 + 1, X.2.2.2.2.1 + 6, X.2.2.2.2.2) := ⟨_, rfl⟩
  have hX2 : XB (i + 1) L X2 := by rw [eX]; exact xb_n hX
  have a4 : g = 0 → X2.1 = v.toInt64 := by rw [eX]; exact a4
  obtain ⟨M2, b1, b2, b3⟩ := a5 X2
  refine ⟨M2, X2, pI (ii g), pI v, z7, ?_, b2, hX2⟩
  have hx := xb_c hX hi
  rw [qL311_23, hX.1, ii_of, i_6, ii_sub, ltF (by omega), inbT (by omega), ho, if_neg (show ¬ (ii 18 = (0 : Int32)) by decide), if_neg (show ¬ (ii 18 = (1 : Int32)) by decide), if_neg (show ¬ (ii 18 = (2 : Int32)) by decide), if_neg (show ¬ (ii 18 = (3 : Int32)) by decide), if_neg (show ¬ (ii 18 = (4 : Int32)) by decide), if_neg (show ¬ (ii 18 = (5 : Int32)) by decide), if_neg (show ¬ (ii 18 = ii 6) by decide), if_neg (show ¬ (ii 18 = (7 : Int32)) by decide), if_neg (show ¬ (ii 18 = (8 : Int32)) by decide), if_neg (show ¬ (ii 18 = (9 : Int32)) by decide), if_neg (show ¬ (ii 18 = (10 : Int32)) by decide), if_neg (show ¬ (ii 18 = (11 : Int32)) by decide), if_neg (show ¬ (ii 18 = (12 : Int32)) by decide), if_neg (show ¬ (ii 18 = (13 : Int32)) by decide), if_neg (show ¬ (ii 18 = (14 : Int32)) by decide), if_neg (show ¬ (ii 18 = (15 : Int32)) by decide), if_neg (show ¬ (ii 18 = (16 : Int32)) by decide), if_neg (show ¬ (ii 18 = (17 : Int32)) by decide), if_pos (show ii 18 = (18 : Int32) from rfl), i_1, ii_add, inbT (by omega), i_2, ii_add, inbT (by omega), if_pos hx, ea, eb, a1, kx, ← eX, qL311_1233, hf 900 (by omega), hX2.1, i_1, ii_add, inbT (by omega), i_2, ii_add, inbT (by omega), ea, eb]
  exact lawW qL311_1251 qL311_1257 qL311_1281 a2 a4 b1 b3
theorem opL_20 (hi : i ≤ 600) (hW : W9 i M) (hX : XB i L X) (hj : 6 * i + 6 ≤ L) (hL : L ≤ 3072) (ho : (M 900 (ii (6 * (i : Int))).toNatClampNeg) &&& 31 = ii 20) : GO i L z5 z6 z7 M X := by
  obtain ⟨v, M1, a1, hf, a5⟩ := b_heavy (i := i) M X hW
  obtain ⟨M2, b1, b2⟩ := a5 X
  refine ⟨M2, X, z5, z6, z7, ?_, b2, xb_s hX⟩
  rw [qL311_23, hX.1, ii_of, i_6, ii_sub, ltF (by omega), inbT (by omega), ho, if_neg (show ¬ (ii 20 = (0 : Int32)) by decide), if_neg (show ¬ (ii 20 = (1 : Int32)) by decide), if_neg (show ¬ (ii 20 = (2 : Int32)) by decide), if_neg (show ¬ (ii 20 = (3 : Int32)) by decide), if_neg (show ¬ (ii 20 = (4 : Int32)) by decide), if_neg (show ¬ (ii 20 = (5 : Int32)) by decide), if_neg (show ¬ (ii 20 = ii 6) by decide), if_neg (show ¬ (ii 20 = (7 : Int32)) by decide), if_neg (show ¬ (ii 20 = (8 : Int32)) by decide), if_neg (show ¬ (ii 20 = (9 : Int32)) by decide), if_neg (show ¬ (ii 20 = (10 : Int32)) by decide), if_neg (show ¬ (ii 20 = (11 : Int32)) by decide), if_neg (show ¬ (ii 20 = (12 : Int32)) by decide), if_neg (show ¬ (ii 20 = (13 : Int32)) by decide), if_neg (show ¬ (ii 20 = (14 : Int32)) by decide), if_neg (show ¬ (ii 20 = (15 : Int32)) by decide), if_neg (show ¬ (ii 20 = (16 : Int32)) by decide), if_neg (show ¬ (ii 20 = (17 : Int32)) by decide), if_neg (show ¬ (ii 20 = (18 : Int32)) by decide), if_neg (show ¬ (ii 20 = (19 : Int32)) by decide), if_pos (show ii 20 = (20 : Int32) from rfl), a1, kt1, qL311_1371, b1, kt1, qL311_1375, if_pos rfl]
theorem opL_21 (hi : i ≤ 600) (hW : W9 i M) (hX : XB i L X) (hj : 6 * i + 6 ≤ L) (hL : L ≤ 3072) (ho : (M 900 (ii (6 * (i : Int))).toNatClampNeg) &&& 31 = ii 21) : GO i L z5 z6 z7 M X := by
  obtain ⟨a, ea, ha⟩ := ii_ex (M 900 (ii (6 * (i : Int) + 1)).toNatClampNeg)
  obtain ⟨b, eb, hb⟩ := ii_ex (M 900 (ii (6 * (i : Int) + 2)).toNatClampNeg)
  obtain ⟨M1, g, v, X1, a1, a2, hf, a4, a5⟩ := wrp (X := X) (fun M X => q271_0 _ _ M X) (fun y0 y1 M X => q271_8 _ _ _ _ _ y0 y1 M X) (by decide) (by decide) (b_least (i := i) hi ha hb) hW
  obtain ⟨X2, eX⟩ : ∃ X2 : PX, X2 = (X1.1, X1.2.1, X1.2.2.1, X.2.2.2.1 + 1, X.2.2.2.2.1 + 6, X.2.2.2.2.2) := ⟨_, rfl⟩
  have hX2 : XB (i + 1) L X2 := by rw [eX]; exact xb_n hX
  have a4 : g = 0 → X2.1 = v.toInt64 := by rw [eX]; exact a4
  obtain ⟨M2, b1, b2, b3⟩ := a5 X2
  refine ⟨M2, X2, pI (ii g), pI v, z7, ?_, b2, hX2⟩
  have hx := xb_c hX hi
  rw [qL311_23, hX.1, ii_of, i_6, ii_sub, ltF (by omega), inbT (by omega), ho, if_neg (show ¬ (ii 21 = (0 : Int32)) by decide), if_neg (show ¬ (ii 21 = (1 : Int32)) by decide), if_neg (show ¬ (ii 21 = (2 : Int32)) by decide), if_neg (show ¬ (ii 21 = (3 : Int32)) by decide), if_neg (show ¬ (ii 21 = (4 : Int32)) by decide), if_neg (show ¬ (ii 21 = (5 : Int32)) by decide), if_neg (show ¬ (ii 21 = ii 6) by decide), if_neg (show ¬ (ii 21 = (7 : Int32)) by decide), if_neg (show ¬ (ii 21 = (8 : Int32)) by decide), if_neg (show ¬ (ii 21 = (9 : Int32)) by decide), if_neg (show ¬ (ii 21 = (10 : Int32)) by decide), if_neg (show ¬ (ii 21 = (11 : Int32)) by decide), if_neg (show ¬ (ii 21 = (12 : Int32)) by decide), if_neg (show ¬ (ii 21 = (13 : Int32)) by decide), if_neg (show ¬ (ii 21 = (14 : Int32)) by decide), if_neg (show ¬ (ii 21 = (15 : Int32)) by decide), if_neg (show ¬ (ii 21 = (16 : Int32)) by decide), if_neg (show ¬ (ii 21 = (17 : Int32)) by decide), if_neg (show ¬ (ii 21 = (18 : Int32)) by decide), if_neg (show ¬ (ii 21 = (19 : Int32)) by decide), if_neg (show ¬ (ii 21 = (20 : Int32)) by decide), if_pos (show ii 21 = (21 : Int32) from rfl), i_1, ii_add, inbT (by omega), i_2, ii_add, inbT (by omega), if_pos hx, ea, eb, a1, kx, ← eX, qL311_1397, hf 900 (by omega), hX2.1, i_1, ii_add, inbT (by omega), i_2, ii_add, inbT (by omega), ea, eb]
  exact lawW qL311_1415 qL311_1421 qL311_1445 a2 a4 b1 b3
theorem opL_22 (hi : i ≤ 600) (hW : W9 i M) (hX : XB i L X) (hj : 6 * i + 6 ≤ L) (hL : L ≤ 3072) (ho : (M 900 (ii (6 * (i : Int))).toNatClampNeg) &&& 31 = ii 22) : GO i L z5 z6 z7 M X := by
  obtain ⟨a, ea, ha⟩ := ii_ex (M 900 (ii (6 * (i : Int) + 1)).toNatClampNeg)
  obtain ⟨b, eb, hb⟩ := ii_ex (M 900 (ii (6 * (i : Int) + 2)).toNatClampNeg)
  obtain ⟨M1, g, v, X1, a1, a2, hf, a4, a5⟩ := wrp (X := X) (fun M X => q272_0 _ _ M X) (fun y0 y1 M X => q272_8 _ _ _ _ _ y0 y1 M X) (by decide) (by decide) (b_best (i := i) hi ha hb) hW
  obtain ⟨X2, eX⟩ : ∃ X2 : PX, X2 = (X1.1, X1.2.1, X1.2.2.1, X.2.2.2.1 + 1, X.2.2.2.2.1 + 6, X.2.2.2.2.2) := ⟨_, rfl⟩
  have hX2 : XB (i + 1) L X2 := by rw [eX]; exact xb_n hX
  have a4 : g = 0 → X2.1 = v.toInt64 := by rw [eX]; exact a4
  obtain ⟨M2, b1, b2, b3⟩ := a5 X2
  refine ⟨M2, X2, pI (ii g), pI v, z7, ?_, b2, hX2⟩
  have hx := xb_c hX hi
  rw [qL311_23, hX.1, ii_of, i_6, ii_sub, ltF (by omega), inbT (by omega), ho, if_neg (show ¬ (ii 22 = (0 : Int32)) by decide), if_neg (show ¬ (ii 22 = (1 : Int32)) by decide), if_neg (show ¬ (ii 22 = (2 : Int32)) by decide), if_neg (show ¬ (ii 22 = (3 : Int32)) by decide), if_neg (show ¬ (ii 22 = (4 : Int32)) by decide), if_neg (show ¬ (ii 22 = (5 : Int32)) by decide), if_neg (show ¬ (ii 22 = ii 6) by decide), if_neg (show ¬ (ii 22 = (7 : Int32)) by decide), if_neg (show ¬ (ii 22 = (8 : Int32)) by decide), if_neg (show ¬ (ii 22 = (9 : Int32)) by decide), if_neg (show ¬ (ii 22 = (10 : Int32)) by decide), if_neg (show ¬ (ii 22 = (11 : Int32)) by decide), if_neg (show ¬ (ii 22 = (12 : Int32)) by decide), if_neg (show ¬ (ii 22 = (13 : Int32)) by decide), if_neg (show ¬ (ii 22 = (14 : Int32)) by decide), if_neg (show ¬ (ii 22 = (15 : Int32)) by decide), if_neg (show ¬ (ii 22 = (16 : Int32)) by decide), if_neg (show ¬ (ii 22 = (17 : Int32)) by decide), if_neg (show ¬ (ii 22 = (18 : Int32)) by decide), if_neg (show ¬ (ii 22 = (19 : Int32)) by decide), if_neg (show ¬ (ii 22 = (20 : Int32)) by decide), if_neg (show ¬ (ii 22 = (21 : Int32)) by decide), if_pos (show ii 22 = (22 : Int32) from rfl), i_1, ii_add, inbT (by omega), i_2, ii_add, inbT (by omega), if_pos hx, ea, eb, a1, kx, ← eX, qL311_1465, hf 900 (by omega), hX2.1, i_1, ii_add, inbT (by omega), i_2, ii_add, inbT (by omega), ea, eb]
  exact lawW qL311_1483 qL311_1489 qL311_1513 a2 a4 b1 b3
theorem opL_23 (hi : i ≤ 600) (hW : W9 i M) (hX : XB i L X) (hj : 6 * i + 6 ≤ L) (hL : L ≤ 3072) (ho : (M 900 (ii (6 * (i : Int))).toNatClampNeg) &&& 31 = ii 23) : GO i L z5 z6 z7 M X := by
  obtain ⟨a, ea, ha⟩ := ii_ex (M 900 (ii (6 * (i : Int) + 1)).toNatClampNeg)
  obtain ⟨b, eb, hb⟩ := ii_ex (M 900 (ii (6 * (i : Int) + 2)).toNatClampNeg)
  obtain ⟨M1, g, v, X1, a1, a2, hf, a4, a5⟩ := wrp (X := X) (fun M X => q273_0 _ _ M X) (fun y0 y1 M X => q273_8 _ _ _ _ _ y0 y1 M X) (by decide) (by decide) (b_with (i := i) hi ha hb) hW
  obtain ⟨X2, eX⟩ : ∃ X2 : PX, X2 = (X1.1, X1.2.1, X1.2.2.1, X.2.2.2.1 + 1, X.2.2.2.2.1 + 6, X.2.2.2.2.2) := ⟨_, rfl⟩
  have hX2 : XB (i + 1) L X2 := by rw [eX]; exact xb_n hX
  have a4 : g = 0 → X2.1 = v.toInt64 := by rw [eX]; exact a4
  obtain ⟨M2, b1, b2, b3⟩ := a5 X2
  refine ⟨M2, X2, pI (ii g), pI v, z7, ?_, b2, hX2⟩
  have hx := xb_c hX hi
  rw [qL311_23, hX.1, ii_of, i_6, ii_sub, ltF (by omega), inbT (by omega), ho, if_neg (show ¬ (ii 23 = (0 : Int32)) by decide), if_neg (show ¬ (ii 23 = (1 : Int32)) by decide), if_neg (show ¬ (ii 23 = (2 : Int32)) by decide), if_neg (show ¬ (ii 23 = (3 : Int32)) by decide), if_neg (show ¬ (ii 23 = (4 : Int32)) by decide), if_neg (show ¬ (ii 23 = (5 : Int32)) by decide), if_neg (show ¬ (ii 23 = ii 6) by decide), if_neg (show ¬ (ii 23 = (7 : Int32)) by decide), if_neg (show ¬ (ii 23 = (8 : Int32)) by decide), if_neg (show ¬ (ii 23 = (9 : Int32)) by decide), if_neg (show ¬ (ii 23 = (10 : Int32)) by decide), if_neg (show ¬ (ii 23 = (11 : Int32)) by decide), if_neg (show ¬ (ii 23 = (12 : Int32)) by decide), if_neg (show ¬ (ii 23 = (13 : Int32)) by decide), if_neg (show ¬ (ii 23 = (14 : Int32)) by decide), if_neg (show ¬ (ii 23 = (15 : Int32)) by decide), if_neg (show ¬ (ii 23 = (16 : Int32)) by decide), if_neg (show ¬ (ii 23 = (17 : Int32)) by decide), if_neg (show ¬ (ii 23 = (18 : Int32)) by decide), if_neg (show ¬ (ii 23 = (19 : Int32)) by decide), if_neg (show ¬ (ii 23 = (20 : Int32)) by decide), if_neg (show ¬ (ii 23 = (21 : Int32)) by decide), if_neg (show ¬ (ii 23 = (22 : Int32)) by decide), if_pos (show ii 23 = (23 : Int32) from rfl), i_1, ii_add, inbT (by omega), i_2, ii_add, inbT (by omega), if_pos hx, ea, eb, a1, kx, ← eX, qL311_1533, hf 900 (by omega), hX2.1, i_1, ii_add, inbT (by omega), i_2, ii_add, inbT (by omega), ea, eb]
  exact lawW qL311_1551 qL311_1557 qL311_1581 a2 a4 b1 b3
theorem opL_24 (hi : i ≤ 600) (hW : W9 i M) (hX : XB i L X) (hj : 6 * i + 6 ≤ L) (hL : L ≤ 3072) (ho : (M 900 (ii (6 * (i : Int))).toNatClampNeg) &&& 31 = ii 24) : GO i L z5 z6 z7 M X := by
  obtain ⟨a, ea, ha⟩ := ii_ex (M 900 (ii (6 * (i : Int) + 1)).toNatClampNeg)
  obtain ⟨M1, g, v, X1, a1, a2, hf, a4, a5⟩ := wrp (X := X) (fun M X => q281_0 _ M X) (fun y0 y1 M X => q281_7 _ _ _ _ y0 y1 M X) (by decide) (by decide) (b_ask (i := i) hi ha) hW
  obtain ⟨X2, eX⟩ : ∃ X2 : PX, X2 = (X1.1, X1.2.1, X1.2.2.1, X.2.2.2.1 + 1, X.2.2.2.2.1 + 6, X.2.2.2.2.2) := ⟨_, rfl⟩
  have hX2 : XB (i + 1) L X2 := by rw [eX]; exact xb_n hX
  have a4 : g = 0 → X2.1 = v.toInt64 := by rw [eX]; exact a4
  obtain ⟨M2, b1, b2, b3⟩ := a5 X2
  refine ⟨M2, X2, pI (ii g), pI v, z7, ?_, b2, hX2⟩
  have hx := xb_c hX hi
  rw [qL311_23, hX.1, ii_of, i_6, ii_sub, ltF (by omega), inbT (by omega), ho, if_neg (show ¬ (ii 24 = (0 : Int32)) by decide), if_neg (show ¬ (ii 24 = (1 : Int32)) by decide), if_neg (show ¬ (ii 24 = (2 : Int32)) by decide), if_neg (show ¬ (ii 24 = (3 : Int32)) by decide), if_neg (show ¬ (ii 24 = (4 : Int32)) by decide), if_neg (show ¬ (ii 24 = (5 : Int32)) by decide), if_neg (show ¬ (ii 24 = ii 6) by decide), if_neg (show ¬ (ii 24 = (7 : Int32)) by decide), if_neg (show ¬ (ii 24 = (8 : Int32)) by decide), if_neg (show ¬ (ii 24 = (9 : Int32)) by decide), if_neg (show ¬ (ii 24 = (10 : Int32)) by decide), if_neg (show ¬ (ii 24 = (11 : Int32)) by decide), if_neg (show ¬ (ii 24 = (12 : Int32)) by decide), if_neg (show ¬ (ii 24 = (13 : Int32)) by decide), if_neg (show ¬ (ii 24 = (14 : Int32)) by decide), if_neg (show ¬ (ii 24 = (15 : Int32)) by decide), if_neg (show ¬ (ii 24 = (16 : Int32)) by decide), if_neg (show ¬ (ii 24 = (17 : Int32)) by decide), if_neg (show ¬ (ii 24 = (18 : Int32)) by decide), if_neg (show ¬ (ii 24 = (19 : Int32)) by decide), if_neg (show ¬ (ii 24 = (20 : Int32)) by decide), if_neg (show ¬ (ii 24 = (21 : Int32)) by decide), if_neg (show ¬ (ii 24 = (22 : Int32)) by decide), if_neg (show ¬ (ii 24 = (23 : Int32)) by decide), if_pos (show ii 24 = (24 : Int32) from rfl), i_1, ii_add, inbT (by omega), if_pos hx, ea, a1, kx, ← eX, qL311_1595, hf 900 (by omega), hX2.1, i_1, ii_add, inbT (by omega), ea]
  exact lawW qL311_1607 qL311_1613 qL311_1637 a2 a4 b1 b3
theorem opL_26 (hi : i ≤ 600) (hW : W9 i M) (hX : XB i L X) (hj : 6 * i + 6 ≤ L) (hL : L ≤ 3072) (ho : (M 900 (ii (6 * (i : Int))).toNatClampNeg) &&& 31 = ii 26) : GO i L z5 z6 z7 M X := by
  obtain ⟨v, M1, a1, hf, a5⟩ := b_back (i := i) M X hW
  obtain ⟨M2, b1, b2⟩ := a5 X
  refine ⟨M2, X, z5, z6, z7, ?_, b2, xb_s hX⟩
  rw [qL311_23, hX.1, ii_of, i_6, ii_sub, ltF (by omega), inbT (by omega), ho, if_neg (show ¬ (ii 26 = (0 : Int32)) by decide), if_neg (show ¬ (ii 26 = (1 : Int32)) by decide), if_neg (show ¬ (ii 26 = (2 : Int32)) by decide), if_neg (show ¬ (ii 26 = (3 : Int32)) by decide), if_neg (show ¬ (ii 26 = (4 : Int32)) by decide), if_neg (show ¬ (ii 26 = (5 : Int32)) by decide), if_neg (show ¬ (ii 26 = ii 6) by decide), if_neg (show ¬ (ii 26 = (7 : Int32)) by decide), if_neg (show ¬ (ii 26 = (8 : Int32)) by decide), if_neg (show ¬ (ii 26 = (9 : Int32)) by decide), if_neg (show ¬ (ii 26 = (10 : Int32)) by decide), if_neg (show ¬ (ii 26 = (11 : Int32)) by decide), if_neg (show ¬ (ii 26 = (12 : Int32)) by decide), if_neg (show ¬ (ii 26 = (13 : Int32)) by decide), if_neg (show ¬ (ii 26 = (14 : Int32)) by decide), if_neg (show ¬ (ii 26 = (15 : Int32)) by decide), if_neg (show ¬ (ii 26 = (16 : Int32)) by decide), if_neg (show ¬ (ii 26 = (17 : Int32)) by decide), if_neg (show ¬ (ii 26 = (18 : Int32)) by decide), if_neg (show ¬ (ii 26 = (19 : Int32)) by decide), if_neg (show ¬ (ii 26 = (20 : Int32)) by decide), if_neg (show ¬ (ii 26 = (21 : Int32)) by decide), if_neg (show ¬ (ii 26 = (22 : Int32)) by decide), if_neg (show ¬ (ii 26 = (23 : Int32)) by decide), if_neg (show ¬ (ii 26 = (24 : Int32)) by decide), if_neg (show ¬ (ii 26 = (25 : Int32)) by decide), if_pos (show ii 26 = (26 : Int32) from rfl), a1, kt1, qL311_1655, b1, kt1, qL311_1659, if_pos rfl]
theorem opL_25 (hi : i ≤ 600) (hW : W9 i M) (hX : XB i L X) (hj : 6 * i + 6 ≤ L) (hL : L ≤ 3072) (ho : (M 900 (ii (6 * (i : Int))).toNatClampNeg) &&& 31 = ii 25) : GO i L z5 z6 z7 M X := by
  obtain ⟨M1, a1, a5⟩ := b_image (X := X) hW
  obtain ⟨M2, b1, b2⟩ := a5 X
  refine ⟨M2, X, z5, z6, z7, ?_, b2, xb_s hX⟩
  rw [qL311_23, hX.1, ii_of, i_6, ii_sub, ltF (by omega), inbT (by omega), ho, if_neg (show ¬ (ii 25 = (0 : Int32)) by decide), if_neg (show ¬ (ii 25 = (1 : Int32)) by decide), if_neg (show ¬ (ii 25 = (2 : Int32)) by decide), if_neg (show ¬ (ii 25 = (3 : Int32)) by decide), if_neg (show ¬ (ii 25 = (4 : Int32)) by decide), if_neg (show ¬ (ii 25 = (5 : Int32)) by decide), if_neg (show ¬ (ii 25 = ii 6) by decide), if_neg (show ¬ (ii 25 = (7 : Int32)) by decide), if_neg (show ¬ (ii 25 = (8 : Int32)) by decide), if_neg (show ¬ (ii 25 = (9 : Int32)) by decide), if_neg (show ¬ (ii 25 = (10 : Int32)) by decide), if_neg (show ¬ (ii 25 = (11 : Int32)) by decide), if_neg (show ¬ (ii 25 = (12 : Int32)) by decide), if_neg (show ¬ (ii 25 = (13 : Int32)) by decide), if_neg (show ¬ (ii 25 = (14 : Int32)) by decide), if_neg (show ¬ (ii 25 = (15 : Int32)) by decide), if_neg (show ¬ (ii 25 = (16 : Int32)) by decide), if_neg (show ¬ (ii 25 = (17 : Int32)) by decide), if_neg (show ¬ (ii 25 = (18 : Int32)) by decide), if_neg (show ¬ (ii 25 = (19 : Int32)) by decide), if_neg (show ¬ (ii 25 = (20 : Int32)) by decide), if_neg (show ¬ (ii 25 = (21 : Int32)) by decide), if_neg (show ¬ (ii 25 = (22 : Int32)) by decide), if_neg (show ¬ (ii 25 = (23 : Int32)) by decide), if_neg (show ¬ (ii 25 = (24 : Int32)) by decide), if_pos (show ii 25 = (25 : Int32) from rfl), a1, kt0, qL311_1644, b1, kt0, qL311_1648]
theorem opL_def (hi : i ≤ 600) (hW : W9 i M) (hX : XB i L X) (hj : 6 * i + 6 ≤ L) (hL : L ≤ 3072) (ho : ∀ j : Nat, j ≤ 26 → ¬ (M 900 (ii (6 * (i : Int))).toNatClampNeg) &&& 31 = Int32.ofNat j) : GO i L z5 z6 z7 M X := by
  have hW' : W9 (i + 1) M := by
    obtain ⟨A, n, Q, k, I, s, D, f, h1, h2, hz⟩ := hW
    exact ⟨A, n, Q, k, I, s, D, f, h1, h2, hz.le t_le⟩
  refine ⟨M, X, z5, z6, z7, ?_, hW', xb_s hX⟩
  rw [qL311_23, hX.1, ii_of, i_6, ii_sub, ltF (by omega), inbT (by omega), if_neg (show ¬ (M 900 (ii (6 * (i : Int))).toNatClampNeg &&& 31 = (0 : Int32)) from ho 0 (by omega)), if_neg (show ¬ (M 900 (ii (6 * (i : Int))).toNatClampNeg &&& 31 = (1 : Int32)) from ho 1 (by omega)), if_neg (show ¬ (M 900 (ii (6 * (i : Int))).toNatClampNeg &&& 31 = (2 : Int32)) from ho 2 (by omega)), if_neg (show ¬ (M 900 (ii (6 * (i : Int))).toNatClampNeg &&& 31 = (3 : Int32)) from ho 3 (by omega)), if_neg (show ¬ (M 900 (ii (6 * (i : Int))).toNatClampNeg &&& 31 = (4 : Int32)) from ho 4 (by omega)), if_neg (show ¬ (M 900 (ii (6 * (i : Int))).toNatClampNeg &&& 31 = (5 : Int32)) from ho 5 (by omega)), if_neg (show ¬ (M 900 (ii (6 * (i : Int))).toNatClampNeg &&& 31 = ii 6) from ho 6 (by omega)), if_neg (show ¬ (M 900 (ii (6 * (i : Int))).toNatClampNeg &&& 31 = (7 : Int32)) from ho 7 (by omega)), if_neg (show ¬ (M 900 (ii (6 * (i : Int))).toNatClampNeg &&& 31 = (8 : Int32)) from ho 8 (by omega)), if_neg (show ¬ (M 900 (ii (6 * (i : Int))).toNatClampNeg &&& 31 = (9 : Int32)) from ho 9 (by omega)), if_neg (show ¬ (M 900 (ii (6 * (i : Int))).toNatClampNeg &&& 31 = (10 : Int32)) from ho 10 (by omega)), if_neg (show ¬ (M 900 (ii (6 * (i : Int))).toNatClampNeg &&& 31 = (11 : Int32)) from ho 11 (by omega)), if_neg (show ¬ (M 900 (ii (6 * (i : Int))).toNatClampNeg &&& 31 = (12 : Int32)) from ho 12 (by omega)), if_neg (show ¬ (M 900 (ii (6 * (i : Int))).toNatClampNeg &&& 31 = (13 : Int32)) from ho 13 (by omega)), if_neg (show ¬ (M 900 (ii (6 * (i : Int))).toNatClampNeg &&& 31 = (14 : Int32)) from ho 14 (by omega)), if_neg (show ¬ (M 900 (ii (6 * (i : Int))).toNatClampNeg &&& 31 = (15 : Int32)) from ho 15 (by omega)), if_neg (show ¬ (M 900 (ii (6 * (i : Int))).toNatClampNeg &&& 31 = (16 : Int32)) from ho 16 (by omega)), if_neg (show ¬ (M 900 (ii (6 * (i : Int))).toNatClampNeg &&& 31 = (17 : Int32)) from ho 17 (by omega)), if_neg (show ¬ (M 900 (ii (6 * (i : Int))).toNatClampNeg &&& 31 = (18 : Int32)) from ho 18 (by omega)), if_neg (show ¬ (M 900 (ii (6 * (i : Int))).toNatClampNeg &&& 31 = (19 : Int32)) from ho 19 (by omega)), if_neg (show ¬ (M 900 (ii (6 * (i : Int))).toNatClampNeg &&& 31 = (20 : Int32)) from ho 20 (by omega)), if_neg (show ¬ (M 900 (ii (6 * (i : Int))).toNatClampNeg &&& 31 = (21 : Int32)) from ho 21 (by omega)), if_neg (show ¬ (M 900 (ii (6 * (i : Int))).toNatClampNeg &&& 31 = (22 : Int32)) from ho 22 (by omega)), if_neg (show ¬ (M 900 (ii (6 * (i : Int))).toNatClampNeg &&& 31 = (23 : Int32)) from ho 23 (by omega)), if_neg (show ¬ (M 900 (ii (6 * (i : Int))).toNatClampNeg &&& 31 = (24 : Int32)) from ho 24 (by omega)), if_neg (show ¬ (M 900 (ii (6 * (i : Int))).toNatClampNeg &&& 31 = (25 : Int32)) from ho 25 (by omega)), if_neg (show ¬ (M 900 (ii (6 * (i : Int))).toNatClampNeg &&& 31 = (26 : Int32)) from ho 26 (by omega))]
theorem bI_d {x : Int32} : (if x = 0 then (0 : Int32) else 1) = bI (!decide (x = 0)) := by
  by_cases c : x = 0
  · rw [if_pos c, decide_eq_true c]; rfl
  · rw [if_neg c, decide_eq_false c]; rfl
/-- loads: the class, then the reference -/
theorem b_load (hW : W9 i M) (ha : B32 a) (r : Bool) : ∃ g v X1, ev true 198 0 0 [pR 1 0, pI (ii a), pI (bI r), pR 15 828, p0] [] M (enX 1 X) = some (.inl (some (pI (ii g))), M, X1) ∧ (0 ≤ g ∧ g ≤ 2) ∧ (g = 0 → X1.1 = v) ∧ ∀ X2, ∃ M2, ev true 216 0 0 [pR 13 819, pI (ii a), pI (bI r), p0, p0, p0, p0] [] M X2 = some (.inl (some (pL v)), M2, X2) ∧ W9 (i + 1) M2 ∧ M2 819 7 = ii g := by
  obtain ⟨A, n, Q, k, I, s, D, f, h1, h2, hz⟩ := hW
  have hc9 : (enX 1 X).2.2.2.1 + 1 ≤ mcM 198 ∧ (enX 1 X).2.2.2.2.1 + 6 ≤ msM 198 := ⟨(by decide : 0 + 1 ≤ mcM 198), (by decide : 0 + 6 ≤ msM 198)⟩
  by_cases hc : 0 ≤ a ∧ a < A 0 0
  · obtain ⟨v, c1, c2⟩ := P_load_y hz hc r
    refine ⟨0, v, _, by rw [q198_0, if_pos hc9, c1 M _ h1, kx, q198_8, if_pos in828]; rfl, by omega, fun _ => rfl, fun X2 => ?_⟩
    obtain ⟨M2, b1, b2, b3, b4⟩ := c2 M X2 h2
    exact ⟨M2, b1, ⟨A, n, Q, k, I, s, D, f, h1.fr b3, b2, hz.le t_le⟩, b4⟩
  · obtain ⟨c1, c2⟩ := P_load_n hz ha hc
    refine ⟨1, jj 0, bkX true 1 6 (enX 1 X) (thX (enX 1 (enX 1 X))), ?_, by omega, fun w => by omega, fun X2 => ?_⟩
    · rw [q198_0, if_pos hc9, c1 (bI r) M _ h1 ⟨rfl, rfl⟩]
      rfl
    · obtain ⟨M2, b1, b2, b3, b4⟩ := c2 (bI r) M X2 h2
      exact ⟨M2, b1, ⟨A, n, Q, k, I, s, D, f, h1.fr b3, b2, hz.le t_le⟩, b4⟩
theorem opL_19 (hi : i ≤ 600) (hW : W9 i M) (hX : XB i L X) (hj : 6 * i + 6 ≤ L) (hL : L ≤ 3072) (ho : (M 900 (ii (6 * (i : Int))).toNatClampNeg) &&& 31 = ii 19) : GO i L z5 z6 z7 M X := by
  obtain ⟨a, ea, ha⟩ := ii_ex (M 900 (ii (6 * (i : Int) + 1)).toNatClampNeg)
  obtain ⟨r, er⟩ : ∃ r : Bool, r = !decide (M 900 (ii (6 * (i : Int) + 2)).toNatClampNeg = ii 0) := ⟨_, rfl⟩
  obtain ⟨g, v, X1, a1, a2, a4, a5⟩ := b_load (X := X) hW ha r
  obtain ⟨X2, eX⟩ : ∃ X2 : PX, X2 = (X1.1, X1.2.1, X1.2.2.1, X.2.2.2.1 + 1, X.2.2.2.2.1 + 6, X.2.2.2.2.2) := ⟨_, rfl⟩
  have hX2 : XB (i + 1) L X2 := by rw [eX]; exact xb_n hX
  have a4 : g = 0 → X2.1 = v := by rw [eX]; exact a4
  obtain ⟨M2, b1, b2, b3⟩ := a5 X2
  refine ⟨M2, X2, pI (ii g), pL v, p0, ?_, b2, hX2⟩
  have hx := xb_c hX hi
  have p1 : ∀ z5 z6 z7 : PV, (if M 900 (ii (6 * (i : Int) + 2)).toNatClampNeg = ii 0 then ev true 311 0 1305 [pR 17 0, pR 1 0, pR 13 819, pR 15 828, pI (ii (6 * (i : Int))), z5, z6, z7] [pI (ii 0), pI (ii a), pR 1 0] M X else ev true 311 0 1305 [pR 17 0, pR 1 0, pR 13 819, pR 15 828, pI (ii (6 * (i : Int))), z5, z6, z7] [pI (ii 1), pI (ii a), pR 1 0] M X) = ev true 311 0 1305 [pR 17 0, pR 1 0, pR 13 819, pR 15 828, pI (ii (6 * (i : Int))), z5, z6, z7] [pI (bI r), pI (ii a), pR 1 0] M X := fun z5 z6 z7 => by
    rw [er]
    by_cases c : M 900 (ii (6 * (i : Int) + 2)).toNatClampNeg = ii 0
    · rw [if_pos c, decide_eq_true c]; rfl
    · rw [if_neg c, decide_eq_false c]; rfl
  have p2 : ∀ z5 z6 z7 : PV, (if M 900 (ii (6 * (i : Int) + 2)).toNatClampNeg = ii 0 then ev true 311 0 1332 [pR 17 0, pR 1 0, pR 13 819, pR 15 828, pI (ii (6 * (i : Int))), z5, z6, z7] [pI (ii 0), pI (ii a), pR 13 819] M X2 else ev true 311 0 1332 [pR 17 0, pR 1 0, pR 13 819, pR 15 828, pI (ii (6 * (i : Int))), z5, z6, z7] [pI (ii 1), pI (ii a), pR 13 819] M X2) = ev true 311 0 1332 [pR 17 0, pR 1 0, pR 13 819, pR 15 828, pI (ii (6 * (i : Int))), z5, z6, z7] [pI (bI r), pI (ii a), pR 13 819] M X2 := fun z5 z6 z7 => by
    rw [er]
    by_cases c : M 900 (ii (6 * (i : Int) + 2)).toNatClampNeg = ii 0
    · rw [if_pos c, decide_eq_true c]; rfl
    · rw [if_neg c, decide_eq_false c]; rfl
  rw [qL311_23, hX.1, ii_of, i_6, ii_sub, ltF (by omega), inbT (by omega), ho, if_neg (show ¬ (ii 19 = (0 : Int32)) by decide), if_neg (show ¬ (ii 19 = (1 : Int32)) by decide), if_neg (show ¬ (ii 19 = (2 : Int32)) by decide), if_neg (show ¬ (ii 19 = (3 : Int32)) by decide), if_neg (show ¬ (ii 19 = (4 : Int32)) by decide), if_neg (show ¬ (ii 19 = (5 : Int32)) by decide), if_neg (show ¬ (ii 19 = ii 6) by decide), if_neg (show ¬ (ii 19 = (7 : Int32)) by decide), if_neg (show ¬ (ii 19 = (8 : Int32)) by decide), if_neg (show ¬ (ii 19 = (9 : Int32)) by decide), if_neg (show ¬ (ii 19 = (10 : Int32)) by decide), if_neg (show ¬ (ii 19 = (11 : Int32)) by decide), if_neg (show ¬ (ii 19 = (12 : Int32)) by decide), if_neg (show ¬ (ii 19 = (13 : Int32)) by decide), if_neg (show ¬ (ii 19 = (14 : Int32)) by decide), if_neg (show ¬ (ii 19 = (15 : Int32)) by decide), if_neg (show ¬ (ii 19 = (16 : Int32)) by decide), if_neg (show ¬ (ii 19 = (17 : Int32)) by decide), if_neg (show ¬ (ii 19 = (18 : Int32)) by decide), if_pos (show ii 19 = (19 : Int32) from rfl), i_1, ii_add, inbT (by omega), i_2, ii_add, inbT (by omega), i_0, ea, p1, qL311_1305, if_pos hx, a1, kx, ← eX, qL311_1309, hX2.1, i_1, ii_add, inbT (by omega), i_2, ii_add, inbT (by omega), i_0, ea, p2, qL311_1332, b1, kt1, qL311_1335, S22, kt1, qL311_1341, b3, if_pos rfl]
  by_cases c : g = 0
  · rw [if_pos (show ii g = 0 by rw [c]; rfl), if_pos in828, a4 c, cmp_s, if_pos rfl, qL311_1364]
  · rw [if_neg (show ¬ ii g = 0 by rw [i_0, ii_eq (by omega) (by omega) (by omega) (by omega)]; exact c), qL311_1364]
theorem a31 (y : Int32) : ∃ z : Nat, y &&& 31 = ii z ∧ z < 32 := by
  have h1 : (y &&& 31).toBitVec.toNat ≤ 31 := by
    rw [Int32.toBitVec_and, BitVec.toNat_and]
    exact Nat.and_le_right
  have h2 : (y &&& 31).toInt = ((y &&& 31).toBitVec.toNat : Int) := by
    show (y &&& 31).toBitVec.toInt = _
    exact BitVec.toInt_eq_toNat_of_lt (by omega)
  refine ⟨(y &&& 31).toBitVec.toNat, ?_, by omega⟩
  rw [← h2]
  exact (Int32.ofInt_toInt _).symm
theorem op_all (hi : i ≤ 600) (hW : W9 i M) (hX : XB i L X) (hj : 6 * i + 6 ≤ L) (hL : L ≤ 3072) : GO i L z5 z6 z7 M X := by
  obtain ⟨z, h1, h2⟩ := a31 (M 900 (ii (6 * (i : Int))).toNatClampNeg)
  by_cases c : z ≤ 26
  · rcases (by omega : z = 0 ∨ z = 1 ∨ z = 2 ∨ z = 3 ∨ z = 4 ∨ z = 5 ∨ z = 6 ∨ z = 7 ∨ z = 8 ∨ z = 9 ∨ z = 10 ∨ z = 11 ∨ z = 12 ∨ z = 13 ∨ z = 14 ∨ z = 15 ∨ z = 16 ∨ z = 17 ∨ z = 18 ∨ z = 19 ∨ z = 20 ∨ z = 21 ∨ z = 22 ∨ z = 23 ∨ z = 24 ∨ z = 25 ∨ z = 26) with rfl | rfl | rfl | rfl | rfl | rfl | rfl | rfl | rfl | rfl | rfl | rfl | rfl | rfl | rfl | rfl | rfl | rfl | rfl | rfl | rfl | rfl | rfl | rfl | rfl | rfl | rfl
    · exact opL_0 hi hW hX hj hL h1
    · exact opL_1 hi hW hX hj hL h1
    · exact opL_2 hi hW hX hj hL h1
    · exact opL_3 hi hW hX hj hL h1
    · exact opL_4 hi hW hX hj hL h1
    · exact opL_5 hi hW hX hj hL h1
    · exact opL_6 hi hW hX hj hL h1
    · exact opL_7 hi hW hX hj hL h1
    · exact opL_8 hi hW hX hj hL h1
    · exact opL_9 hi hW hX hj hL h1
    · exact opL_10 hi hW hX hj hL h1
    · exact opL_11 hi hW hX hj hL h1
    · exact opL_12 hi hW hX hj hL h1
    · exact opL_13 hi hW hX hj hL h1
    · exact opL_14 hi hW hX hj hL h1
    · exact opL_15 hi hW hX hj hL h1
    · exact opL_16 hi hW hX hj hL h1
    · exact opL_17 hi hW hX hj hL h1
    · exact opL_18 hi hW hX hj hL h1
    · exact opL_19 hi hW hX hj hL h1
    · exact opL_20 hi hW hX hj hL h1
    · exact opL_21 hi hW hX hj hL h1
    · exact opL_22 hi hW hX hj hL h1
    · exact opL_23 hi hW hX hj hL h1
    · exact opL_24 hi hW hX hj hL h1
    · exact opL_25 hi hW hX hj hL h1
    · exact opL_26 hi hW hX hj hL h1
  · refine opL_def hi hW hX hj hL fun j hj2 w => c ?_
    rw [h1, ii_of, ii_eq (by omega) (by omega) (by omega) (by omega)] at w
    omega
/-- the law's loop -/
theorem law_lp (hL : L ≤ 3072) : ∀ (m i : Nat) (M : Mem) (X : PX) (z5 z6 z7 : PV), L ≤ 6 * i + 5 + 6 * m → 6 * i ≤ L + 5 → W9 i M → XB i L X → ∃ M' X', ev true 311 0 23 [pR 17 0, pR 1 0, pR 13 819, pR 15 828, pI (ii (6 * (i : Int))), z5, z6, z7] [] M X = some (.inl (some (pI 1)), M', X') := by
  have fin : ∀ (i : Nat) (M : Mem) (X : PX) (z5 z6 z7 : PV), L < 6 * i + 6 → 6 * i ≤ L + 5 → XB i L X → ∃ M' X', ev true 311 0 23 [pR 17 0, pR 1 0, pR 13 819, pR 15 828, pI (ii (6 * (i : Int))), z5, z6, z7] [] M X = some (.inl (some (pI 1)), M', X') := fun i M X z5 z6 z7 h1 h2 hX =>
    ⟨M, X, by rw [qL311_23, hX.1, ii_of, i_6, ii_sub, ltT (by omega), if_pos (by decide)]⟩
  intro m
  induction m with
  | zero => exact fun i M X z5 z6 z7 h1 h2 _ hX => fin i M X z5 z6 z7 (by omega) h2 hX
  | succ m ih =>
    intro i M X z5 z6 z7 h1 h2 hW hX
    by_cases c : L < 6 * i + 6
    · exact fin i M X z5 z6 z7 c h2 hX
    · obtain ⟨M1, X1, y5, y6, y7, a1, a2, a3⟩ := op_all (z5 := z5) (z6 := z6) (z7 := z7) (by omega) hW hX (by omega) hL
      obtain ⟨M', X', b1⟩ := ih (i + 1) M1 X1 y5 y6 y7 (by omega) (by omega) a2 a3
      refine ⟨M', X', ?_⟩
      rw [a1, qL311_1664, i_6, ii_add, show 6 * (i : Int) + 6 = 6 * ((i + 1 : Nat) : Int) by omega]
      exact b1
end LOP
