/-! the world at the law's start -/
section STA
set_option maxRecDepth 100000
variable {z y a b c x T : Int} {M M' M0 M1 M2 : Mem} {X : PX} {n m i p t k e L na : Nat} {o : Int64} {v : Int}
theorem F21a {w : Int32} {z3 : PV} : ∀ (m k : Nat) (M : Mem), k + m = 1434 → (∀ b, b ≠ 820 → M b = M0 b) → (∀ j, j < k → M 820 j = ii 0) → ∃ M' z2, ev false 21 0 2 [pR 14 820, pI w, pI (ii k), z3] [] M X = ev false 21 0 25 [pR 14 820, pI w, pI (ii 0), z3] [] M' X ∧ (∀ b, b ≠ 820 → M' b = M0 b) ∧ (z2 : Nat) = 0 ∧ ∀ j, j < 1434 → M' 820 j = if j = 0 then w else ii 0 := by
  intro m
  induction m with
  | zero =>
    intro k M h1 h2 h3
    refine ⟨upM M 820 0 w, 0, ?_, fun b hb => by rw [← h2 b hb]; funext y; exact up_n hb, rfl, fun j hj => ?_⟩
    · rw [q21i_2, i_1434, ltF (by omega), i_0, inR (by omega)]
    · rw [up_s]
      by_cases c : j = 0
      · rw [if_pos c, if_pos c]
      · rw [if_neg c, if_neg c]; exact h3 j (by omega)
  | succ m ih =>
    intro k M h1 h2 h3
    obtain ⟨M', z2, a1, a2, a3, a4⟩ := ih (k + 1) (upM M 820 k (ii 0)) (by omega) (fun b hb => by rw [← h2 b hb]; funext y; exact up_n hb) (fun j hj => by
      rw [up_s]
      by_cases c : j = k
      · rw [if_pos c]
      · rw [if_neg c]; exact h3 j (by omega))
    refine ⟨M', z2, ?_, a2, a3, a4⟩
    rw [q21i_2, i_1434, ltT (by omega), inR (by omega), ii_nat (by omega) (by omega), show ((k : Int)).toNat = k by omega, i_0, i_1, ii_add]
    exact a1
theorem F21b {w : Int32} {q : Nat} (hq : q < 40) : ∀ (m k : Nat) (M : Mem), k + m = 6 → (∀ b, b ≠ 820 → M b = M0 b) → (∀ j : Nat, M 820 j = if 174 + 6 * q ≤ j ∧ j < 174 + 6 * q + k then ii (-1) else M0 820 j) → ∃ M' z3, ev false 21 0 33 [pR 14 820, pI w, pI (ii q), pI (ii k)] [] M X = ev false 21 0 25 [pR 14 820, pI w, pI (ii (q + 1 : Nat)), z3] [] M' X ∧ (∀ b, b ≠ 820 → M' b = M0 b) ∧ ∀ j : Nat, M' 820 j = if 174 + 6 * q ≤ j ∧ j < 174 + 6 * q + 6 then ii (-1) else M0 820 j := by
  intro m
  induction m with
  | zero =>
    intro k M h1 h2 h3
    have hk : k = 6 := by omega
    subst hk
    refine ⟨M, pI (ii (6 : Nat)), ?_, h2, h3⟩
    rw [q21i_33, i_6, ltF (by omega), i_1, ii_add]
    rfl
  | succ m ih =>
    intro k M h1 h2 h3
    obtain ⟨M', z3, a1, a2, a3⟩ := ih (k + 1) (upM M 820 (174 + 6 * q + k) (ii (-1))) (by omega) (fun b hb => by rw [← h2 b hb]; funext y; exact up_n hb) (fun j => by
      rw [up_s, h3 j]
      by_cases c : j = 174 + 6 * q + k
      · rw [if_pos c, if_pos (by omega)]
      · rw [if_neg c]
        by_cases d : 174 + 6 * q ≤ j ∧ j < 174 + 6 * q + k
        · rw [if_pos d, if_pos (by omega)]
        · rw [if_neg d, if_neg (by omega)])
    refine ⟨M', z3, ?_, a2, a3⟩
    rw [q21i_33, i_6, ltT (by omega), i_174, ii_mul, ii_add, ii_add, inR (by omega), ii_nat (by omega) (by omega), show (174 + 6 * (q : Int) + (k : Int)).toNat = 174 + 6 * q + k by omega, ii_m1, i_1, ii_add]
    exact a1
theorem F21c {w : Int32} : ∀ (m q : Nat) (z3 : PV) (M : Mem), q + m = 40 → (∀ b, b ≠ 820 → M b = M0 b) → (∀ j : Nat, M 820 j = if 174 ≤ j ∧ j < 174 + 6 * q then ii (-1) else M0 820 j) → ∃ M', ev false 21 0 25 [pR 14 820, pI w, pI (ii q), z3] [] M X = some (.inl none, M', X) ∧ (∀ b, b ≠ 820 → M' b = M0 b) ∧ ∀ j : Nat, M' 820 j = if 174 ≤ j ∧ j < 414 then ii (-1) else M0 820 j := by
  intro m
  induction m with
  | zero =>
    intro q z3 M h1 h2 h3
    have hq : q = 40 := by omega
    subst hq
    exact ⟨M, by rw [q21i_25, i_40, ltF (by omega)], h2, h3⟩
  | succ m ih =>
    intro q z3 M h1 h2 h3
    obtain ⟨M1, z4, a1, a2, a3⟩ := F21b (X := X) (M0 := M) (w := w) (q := q) (by omega) 6 0 M (by omega) (fun _ _ => rfl) (fun j => by rw [if_neg (by omega)])
    obtain ⟨M', b1, b2, b3⟩ := ih (q + 1) z4 M1 (by omega) (fun b hb => (a2 b hb).trans (h2 b hb)) (fun j => by
      rw [a3 j, h3 j]
      by_cases c : 174 + 6 * q ≤ j ∧ j < 174 + 6 * q + 6
      · rw [if_pos c, if_pos (by omega)]
      · rw [if_neg c]
        by_cases d : 174 ≤ j ∧ j < 174 + 6 * q
        · rw [if_pos d, if_pos (by omega)]
        · rw [if_neg d, if_neg (by omega)])
    refine ⟨M', ?_, b2, b3⟩
    have a1 : ev false 21 0 33 [pR 14 820, pI w, pI (ii q), pI (ii 0)] [] M X = _ := a1
    rw [q21i_25, i_40, ltT (by omega), i_0, a1]
    exact b1
theorem F21 : ∃ M', ev false 21 0 0 [pR 14 820, pI (ii v), p0, p0] [] M X = some (.inl none, M', X) ∧ (∀ b, b ≠ 820 → M' b = M b) ∧ ∀ z : Nat, z < 1434 → M' 820 z = ii (nuR v z) := by
  obtain ⟨M1, z2, a1, a2, -, a4⟩ := F21a (M0 := M) (X := X) (w := ii v) (z3 := p0) 1434 0 M (by omega) (fun _ _ => rfl) (fun j hj => by omega)
  obtain ⟨M2, b1, b2, b3⟩ := F21c (M0 := M1) (X := X) (w := ii v) 40 0 p0 M1 (by omega) (fun _ _ => rfl) (fun j => by rw [if_neg (by omega)])
  refine ⟨M2, ?_, fun b hb => (b2 b hb).trans (a2 b hb), fun z hz => ?_⟩
  · have a1 : ev false 21 0 2 [pR 14 820, pI (ii v), pI (ii 0), p0] [] M X = _ := a1
    have b1 : ev false 21 0 25 [pR 14 820, pI (ii v), pI (ii 0), p0] [] M1 X = _ := b1
    rw [q21i_0, i_0, a1, b1]
  · rw [b3 z, a4 z hz]
    unfold nuR
    by_cases c : z = 0
    · subst c
      rw [if_neg (by omega), if_pos rfl]
      rfl
    · rw [if_neg (show ¬ (z : Int) = 0 by omega), if_neg c]
      by_cases d : 174 ≤ z ∧ z < 414
      · rw [if_pos d, if_pos (by omega)]
      · rw [if_neg d, if_neg (by omega)]
/-- the flags are kept -/
def KR (M M' : Mem) : Prop := ∀ a k, isRf a k = true → M' a k = M a k
theorem KR.tr (h1 : KR M M1) (h2 : KR M1 M2) : KR M M2 := fun a k h => (h2 a k h).trans (h1 a k h)
theorem kr_up {a k : Nat} {v : Int32} (h : isRf a k = false) : KR M (upM M a k v) := fun b j hj => by
  by_cases c : b = a
  · subst c
    rw [up_s]
    by_cases d : j = k
    · subst d; rw [h] at hj; cases hj
    · rw [if_neg d]
  · exact up_n c
theorem kr_fr (ht : tyA t = 14) (h : ∀ b, b ≠ t → M' b = M b) : KR M M' := fun b j hj => by
  by_cases c : b = t
  · subst c; rw [nrf_i ht] at hj; cases hj
  · rw [h b c]
theorem S162k {v : Int32} : ∃ M', ev true 162 0 0 [pR 9 84, pI v] [] M X = some (.inl none, M', X) ∧ KR M M' := by
  obtain ⟨M0, e0⟩ : ∃ M0, M0 = upM (upM M 84 6 v) 84 7 (ii 0) := ⟨_, rfl⟩
  have k0 : KR M M0 := by rw [e0]; exact (kr_up (by decide +kernel)).tr (kr_up (by decide +kernel))
  obtain ⟨M1, a1, b1, c1⟩ := S73g (M := M0) (X := X) (t := 85) (ii (-1))
  obtain ⟨M2, a2, b2, c2⟩ := S73g (M := M1) (X := X) (t := 87) (ii (-1))
  obtain ⟨M3, a3, b3, c3⟩ := S73g (M := M2) (X := X) (t := 89) (ii (-1))
  obtain ⟨M4, a4, b4, c4⟩ := S73g (M := M3) (X := X) (t := 91) (ii 0)
  obtain ⟨M5, a5, b5, c5⟩ := S73g (M := M4) (X := X) (t := 93) (ii 0)
  obtain ⟨M6, a6, b6, c6⟩ := S73g (M := M5) (X := X) (t := 95) (ii (-1))
  refine ⟨M6, ?_, k0.tr ((kr_fr (by decide +kernel) b1).tr ((kr_fr (by decide +kernel) b2).tr ((kr_fr (by decide +kernel) b3).tr ((kr_fr (by decide +kernel) b4).tr ((kr_fr (by decide +kernel) b5).tr (kr_fr (by decide +kernel) b6))))))⟩
  rw [q162_0, i_0, ii_m1, ← e0]
  show (ev true 73 0 0 [pR 8 85, pI (ii (-1))] [] M0 X).bind _ = _
  rw [a1, kb0, q162_18, ii_m1]
  show (ev true 73 0 0 [pR 8 87, pI (ii (-1))] [] M1 X).bind _ = _
  rw [a2, kb0, q162_26, ii_m1]
  show (ev true 73 0 0 [pR 8 89, pI (ii (-1))] [] M2 X).bind _ = _
  rw [a3, kb0, q162_34, i_0]
  show (ev true 73 0 0 [pR 8 91, pI (ii 0)] [] M3 X).bind _ = _
  rw [a4, kb0, q162_42, i_0]
  show (ev true 73 0 0 [pR 8 93, pI (ii 0)] [] M4 X).bind _ = _
  rw [a5, kb0, q162_50, ii_m1]
  show (ev true 73 0 0 [pR 8 95, pI (ii (-1))] [] M5 X).bind _ = _
  rw [a6, kb0, q162_58]
theorem S208k : ∃ M', ev true 208 0 0 [pR 6 83, pR 5 49] [] M X = some (.inl none, M', X) ∧ KR M M' := by
  have hl := stl83
  obtain ⟨-, -, -, l19, l21, l23, l25, l27, l29, l31, l33, l35, l37, l39, l41, l43, l45, l48⟩ := hl
  have hp := pll49
  obtain ⟨-, -, -, -, -, p11, p13, p15, -⟩ := hp
  obtain ⟨N0, e0⟩ : ∃ N0, N0 = upM M 83 0 (ii 0) := ⟨_, rfl⟩
  have k0 : KR M N0 := by rw [e0]; exact kr_up (by decide +kernel)
  obtain ⟨M1, a1, k1⟩ := S162k (M := N0) (X := X) (v := N0 49 0)
  obtain ⟨M2, a2, b2, c2⟩ := S73g (M := M1) (X := X) (t := 102) (ii 0)
  obtain ⟨M3, a3, c3, b3⟩ := S74c (M := M2) (X := X) (t := 104) (u := 60) (n := 6) l21 p11
  obtain ⟨M4, a4, c4, b4⟩ := S74c (M := M3) (X := X) (t := 106) (u := 62) (n := 6) l23 p13
  obtain ⟨M5, a5, c5, b5⟩ := S74c (M := M4) (X := X) (t := 108) (u := 64) (n := 6) l25 p15
  obtain ⟨M6, a6, b6, c6⟩ := S73g (M := M5) (X := X) (t := 110) (ii 0)
  obtain ⟨M7, a7, b7, c7⟩ := S73g (M := M6) (X := X) (t := 112) (ii 0)
  obtain ⟨M8, a8, b8, c8⟩ := S73g (M := M7) (X := X) (t := 114) (ii 0)
  obtain ⟨M9, a9, b9, c9⟩ := S73g (M := M8) (X := X) (t := 116) (ii 0)
  obtain ⟨M10, a10, b10, c10⟩ := S73g (M := M9) (X := X) (t := 118) (ii 0)
  obtain ⟨M11, a11, b11, c11⟩ := S73g (M := M10) (X := X) (t := 120) (ii 0)
  obtain ⟨M12, a12, b12, c12⟩ := S73g (M := M11) (X := X) (t := 122) (ii 0)
  obtain ⟨M13, a13, b13, c13⟩ := S73g (M := M12) (X := X) (t := 124) (ii 0)
  obtain ⟨M14, a14, b14, c14⟩ := S73g (M := M13) (X := X) (t := 126) (ii 0)
  obtain ⟨M15, a15, b15, c15⟩ := S73g (M := M14) (X := X) (t := 128) (ii 0)
  have kz : KR M15 (upM (upM (upM M15 130 1 (ii 0)) 130 2 (ii 0)) 83 17 (ii (-1))) := (kr_up (by decide +kernel)).tr ((kr_up (by decide +kernel)).tr (kr_up (by decide +kernel)))
  refine ⟨_, ?_, (k0.tr (k1.tr ((kr_fr (by decide +kernel) b2).tr ((kr_fr (by decide +kernel) b3).tr ((kr_fr (by decide +kernel) b4).tr ((kr_fr (by decide +kernel) b5).tr ((kr_fr (by decide +kernel) b6).tr ((kr_fr (by decide +kernel) b7).tr ((kr_fr (by decide +kernel) b8).tr ((kr_fr (by decide +kernel) b9).tr ((kr_fr (by decide +kernel) b10).tr ((kr_fr (by decide +kernel) b11).tr ((kr_fr (by decide +kernel) b12).tr ((kr_fr (by decide +kernel) b13).tr ((kr_fr (by decide +kernel) b14).tr ((kr_fr (by decide +kernel) b15).tr kz))))))))))))))))⟩
  rw [q208_0, i_0, ← e0]
  show (ev true 162 0 0 [pR 9 84, pI (N0 49 0)] [] N0 X).bind _ = _
  rw [a1, kb0, q208_16]
  show (ev true 164 0 0 [pR 10 97] [] M1 X).bind _ = _
  rw [q164_0, i_0]
  show ((ev true 73 0 0 [pR 8 102, pI (ii 0)] [] M1 X).bind _).bind _ = _
  rw [a2, kb0, q164_8, kb0, q208_23]
  show (ev true 74 0 0 [pR 8 104, pR 8 60] [] M2 X).bind _ = _
  rw [a3, kb0, q208_34]
  show (ev true 74 0 0 [pR 8 106, pR 8 62] [] M3 X).bind _ = _
  rw [a4, kb0, q208_45]
  show (ev true 74 0 0 [pR 8 108, pR 8 64] [] M4 X).bind _ = _
  rw [a5, kb0, q208_56, i_0]
  show (ev true 73 0 0 [pR 8 110, pI (ii 0)] [] M5 X).bind _ = _
  rw [a6, kb0, q208_64, i_0]
  show (ev true 73 0 0 [pR 8 112, pI (ii 0)] [] M6 X).bind _ = _
  rw [a7, kb0, q208_72, i_0]
  show (ev true 73 0 0 [pR 8 114, pI (ii 0)] [] M7 X).bind _ = _
  rw [a8, kb0, q208_80, i_0]
  show (ev true 73 0 0 [pR 8 116, pI (ii 0)] [] M8 X).bind _ = _
  rw [a9, kb0, q208_88, i_0]
  show (ev true 73 0 0 [pR 8 118, pI (ii 0)] [] M9 X).bind _ = _
  rw [a10, kb0, q208_96, i_0]
  show (ev true 73 0 0 [pR 8 120, pI (ii 0)] [] M10 X).bind _ = _
  rw [a11, kb0, q208_104, i_0]
  show (ev true 73 0 0 [pR 8 122, pI (ii 0)] [] M11 X).bind _ = _
  rw [a12, kb0, q208_112, i_0]
  show (ev true 73 0 0 [pR 8 124, pI (ii 0)] [] M12 X).bind _ = _
  rw [a13, kb0, q208_120, i_0]
  show (ev true 73 0 0 [pR 8 126, pI (ii 0)] [] M13 X).bind _ = _
  rw [a14, kb0, q208_128, i_0]
  show (ev true 73 0 0 [pR 8 128, pI (ii 0)] [] M14 X).bind _ = _
  rw [a15, kb0, q208_136]
  show (ev true 17 0 0 [pR 11 130] [] M15 X).bind _ = _
  rw [q17_0, i_0, kb0, q208_143, ii_m1]
def cM106 (M : Mem) : Mem := (upM (upM (nlM (upM (nlM (upM (nlM (upM (upM (nlM (upM (nlM (upM (nlM (upM (nlM (upM (nlM (nlM M 819) 820) 819 0 1) 821) 819 1 1) 822) 819 2 1) 823) 819 3 1) 824) 819 4 1) 819 8 (-1)) 825) 819 9 1) 826) 819 12 1) 827) 819 16 1) 819 25 (-1))
theorem K106 : ∃ M', ev false 106 0 0 [pR 13 819] [] (nlM M 819) (o, 820, 820, 0, 0, L) = some (.inl none, M', (o, 828, 828, 8, 218978, L)) ∧ (∀ b, b ≠ 820 → M' b = cM106 M b) ∧ ∀ z : Nat, z < 1434 → M' 820 z = ii (nuR 4 z) := by
  obtain ⟨M', a1, a2, a3⟩ := F21 (M := cM106 M) (X := (o, 828, 828, 8, 218978, L)) (v := 4)
  refine ⟨M', ?_, a2, a3⟩
  rw [q106i_0, if_pos (by exact ⟨(by decide +kernel : tyA 820 = 14), rfl, (by decide : ¬ (1434 : Int32) < 0), (by decide +kernel : (1434 : Int32).toNatClampNeg = ln 820), (by decide +kernel : 0 + 1 ≤ mcM 106), (by decide +kernel : 0 + ln 820 ≤ msM 106)⟩), if_pos (by exact rfl)]
  show ev false 106 0 13 [pR 13 819] [] (upM (nlM (nlM M 819) 820) 819 0 1) (o, 821, 821, 1, 0 + ln 820, L) = _
  rw [show 0 + ln 820 = 1434 by decide +kernel]
  rw [q106i_13, if_pos (by exact ⟨(by decide +kernel : tyA 821 = 14), rfl, (by decide : ¬ (1434 : Int32) < 0), (by decide +kernel : (1434 : Int32).toNatClampNeg = ln 821), (by decide +kernel : 1 + 1 ≤ mcM 106), (by decide +kernel : 1434 + ln 821 ≤ msM 106)⟩), if_pos (by exact rfl)]
  show ev false 106 0 22 [pR 13 819] [] (upM (nlM (upM (nlM (nlM M 819) 820) 819 0 1) 821) 819 1 1) (o, 822, 822, 2, 1434 + ln 821, L) = _
  rw [show 1434 + ln 821 = 2868 by decide +kernel]
  rw [q106i_22, if_pos (by exact ⟨(by decide +kernel : tyA 822 = 14), rfl, (by decide : ¬ (1434 : Int32) < 0), (by decide +kernel : (1434 : Int32).toNatClampNeg = ln 822), (by decide +kernel : 2 + 1 ≤ mcM 106), (by decide +kernel : 2868 + ln 822 ≤ msM 106)⟩), if_pos (by exact rfl)]
  show ev false 106 0 31 [pR 13 819] [] (upM (nlM (upM (nlM (upM (nlM (nlM M 819) 820) 819 0 1) 821) 819 1 1) 822) 819 2 1) (o, 823, 823, 3, 2868 + ln 822, L) = _
  rw [show 2868 + ln 822 = 4302 by decide +kernel]
  rw [q106i_31, if_pos (by exact ⟨(by decide +kernel : tyA 823 = 14), rfl, (by decide : ¬ (1434 : Int32) < 0), (by decide +kernel : (1434 : Int32).toNatClampNeg = ln 823), (by decide +kernel : 3 + 1 ≤ mcM 106), (by decide +kernel : 4302 + ln 823 ≤ msM 106)⟩), if_pos (by exact rfl)]
  show ev false 106 0 40 [pR 13 819] [] (upM (nlM (upM (nlM (upM (nlM (upM (nlM (nlM M 819) 820) 819 0 1) 821) 819 1 1) 822) 819 2 1) 823) 819 3 1) (o, 824, 824, 4, 4302 + ln 823, L) = _
  rw [show 4302 + ln 823 = 5736 by decide +kernel]
  rw [q106i_40, if_pos (by exact ⟨(by decide +kernel : tyA 824 = 14), rfl, (by decide : ¬ (14340 : Int32) < 0), (by decide +kernel : (14340 : Int32).toNatClampNeg = ln 824), (by decide +kernel : 4 + 1 ≤ mcM 106), (by decide +kernel : 5736 + ln 824 ≤ msM 106)⟩), if_pos (by exact rfl)]
  show ev false 106 0 49 [pR 13 819] [] (upM (nlM (upM (nlM (upM (nlM (upM (nlM (upM (nlM (nlM M 819) 820) 819 0 1) 821) 819 1 1) 822) 819 2 1) 823) 819 3 1) 824) 819 4 1) (o, 825, 825, 5, 5736 + ln 824, L) = _
  rw [show 5736 + ln 824 = 20076 by decide +kernel]
  rw [q106i_49]
  rw [q106i_54, if_pos (by exact ⟨(by decide +kernel : tyA 825 = 14), rfl, (by decide : ¬ (6 : Int32) < 0), (by decide +kernel : (6 : Int32).toNatClampNeg = ln 825), (by decide +kernel : 5 + 1 ≤ mcM 106), (by decide +kernel : 20076 + ln 825 ≤ msM 106)⟩), if_pos (by exact rfl)]
  show ev false 106 0 62 [pR 13 819] [] (upM (nlM (upM (upM (nlM (upM (nlM (upM (nlM (upM (nlM (upM (nlM (nlM M 819) 820) 819 0 1) 821) 819 1 1) 822) 819 2 1) 823) 819 3 1) 824) 819 4 1) 819 8 (-1)) 825) 819 9 1) (o, 826, 826, 6, 20076 + ln 825, L) = _
  rw [show 20076 + ln 825 = 20082 by decide +kernel]
  rw [q106i_62, if_pos (by exact ⟨(by decide +kernel : tyA 826 = 14), rfl, (by decide : ¬ (198396 : Int32) < 0), (by decide +kernel : (198396 : Int32).toNatClampNeg = ln 826), (by decide +kernel : 6 + 1 ≤ mcM 106), (by decide +kernel : 20082 + ln 826 ≤ msM 106)⟩), if_pos (by exact rfl)]
  show ev false 106 0 70 [pR 13 819] [] (upM (nlM (upM (nlM (upM (upM (nlM (upM (nlM (upM (nlM (upM (nlM (upM (nlM (nlM M 819) 820) 819 0 1) 821) 819 1 1) 822) 819 2 1) 823) 819 3 1) 824) 819 4 1) 819 8 (-1)) 825) 819 9 1) 826) 819 12 1) (o, 827, 827, 7, 20082 + ln 826, L) = _
  rw [show 20082 + ln 826 = 218478 by decide +kernel]
  rw [q106i_70, if_pos (by exact ⟨(by decide +kernel : tyA 827 = 14), rfl, (by decide : ¬ (500 : Int32) < 0), (by decide +kernel : (500 : Int32).toNatClampNeg = ln 827), (by decide +kernel : 7 + 1 ≤ mcM 106), (by decide +kernel : 218478 + ln 827 ≤ msM 106)⟩), if_pos (by exact rfl)]
  show ev false 106 0 79 [pR 13 819] [] (upM (nlM (upM (nlM (upM (nlM (upM (upM (nlM (upM (nlM (upM (nlM (upM (nlM (upM (nlM (nlM M 819) 820) 819 0 1) 821) 819 1 1) 822) 819 2 1) 823) 819 3 1) 824) 819 4 1) 819 8 (-1)) 825) 819 9 1) 826) 819 12 1) 827) 819 16 1) (o, 828, 828, 8, 218478 + ln 827, L) = _
  rw [show 218478 + ln 827 = 218978 by decide +kernel]
  rw [q106i_79]
  have a1 : ev false 21 0 0 [pR 14 820, pI 4, p0, p0] [] (upM (upM (nlM (upM (nlM (upM (nlM (upM (upM (nlM (upM (nlM (upM (nlM (upM (nlM (upM (nlM (nlM M 819) 820) 819 0 1) 821) 819 1 1) 822) 819 2 1) 823) 819 3 1) 824) 819 4 1) 819 8 (-1)) 825) 819 9 1) 826) 819 12 1) 827) 819 16 1) 819 25 (-1)) (o, 828, 828, 8, 218978, L) = _ := a1
  rw [q106i_84, if_pos (by exact rfl), a1]
  show ev false 106 0 92 [pR 13 819] [] M' (o, 828, 828, 8, 218978, L) = _
  rw [q106i_92]
theorem c106_f {b : Nat} (h : b < 819) : cM106 M b = M b := by
  unfold cM106
  rw [upB (by omega), upB (by omega), nlB (by omega), upB (by omega), nlB (by omega), upB (by omega), nlB (by omega), upB (by omega), upB (by omega), nlB (by omega), upB (by omega), nlB (by omega), upB (by omega), nlB (by omega), upB (by omega), nlB (by omega), upB (by omega), nlB (by omega), nlB (by omega)]
theorem c106_c : cM106 M 819 0 = 1 ∧ cM106 M 819 1 = 1 ∧ cM106 M 819 2 = 1 ∧ cM106 M 819 3 = 1 ∧ cM106 M 819 4 = 1 ∧ cM106 M 819 9 = 1 ∧ cM106 M 819 12 = 1 ∧ cM106 M 819 16 = 1 ∧ cM106 M 819 5 = 0 ∧ cM106 M 819 6 = 0 ∧ cM106 M 819 17 = 0 ∧ cM106 M 819 8 = -1 ∧ cM106 M 819 25 = -1 := ⟨rfl, rfl, rfl, rfl, rfl, rfl, rfl, rfl, rfl, rfl, rfl, rfl, rfl⟩
theorem rf819 {k : Nat} (h : isRf 819 k = true) : k = 0 ∨ k = 1 ∨ k = 2 ∨ k = 3 ∨ k = 4 ∨ k = 9 ∨ k = 12 ∨ k = 16 := by
  have h9 : k < 28 ∨ 28 ≤ k := by omega
  rcases h9 with h9 | h9
  · exact (by decide +kernel : ∀ k : Nat, k < 28 → isRf 819 k = true → k = 0 ∨ k = 1 ∨ k = 2 ∨ k = 3 ∨ k = 4 ∨ k = 9 ∨ k = 12 ∨ k = 16) k h9 h
  · exfalso
    have e : tyA 819 = 13 := by decide +kernel
    have e2 : (fkT.getD 13 []).length ≤ 28 := by decide +kernel
    unfold isRf fkA at h
    rw [e, List.getD_eq_getElem?_getD, List.getElem?_eq_none (by omega)] at h
    cases h
theorem set829 (h : ∀ a k, a < 819 → isRf a k = true → M a k = 1) (h9 : ∀ k, k = 0 ∨ k = 1 ∨ k = 2 ∨ k = 3 ∨ k = 4 ∨ k = 9 ∨ k = 12 ∨ k = 16 → M 819 k = 1) : setA 829 M = true := by
  rw [set_iff]
  intro a k ha hk
  by_cases c : a < 819
  · exact h a k c hk
  · by_cases d : a = 819
    · subst d; exact h9 k (rf819 hk)
    · exfalso
      by_cases e : a = 828
      · subst e
        have e : tyA 828 = 15 := by decide +kernel
        unfold isRf fkA at hk
        rw [e] at hk
        cases hk
      · rw [nrf_i ((by decide +kernel : ∀ q : Nat, q < 8 → tyA (820 + q) = 14) (a - 820) (by omega) |> fun w => by rwa [show 820 + (a - 820) = a by omega] at w)] at hk
        cases hk
/-- what is made holds its parts -/
def Z0 : Mem := fun _ _ => 0
def SFl (lo hi : Nat) (M : Mem) : Prop := ∀ a k, lo ≤ a → a < hi → isRf a k = true → M a k = 1
theorem SFl.fr {lo hi : Nat} (h : SFl lo hi M) (hf : ∀ b, lo ≤ b → b < hi → M' b = M b) : SFl lo hi M' := fun a k h1 h2 h3 => by rw [hf a h1 h2]; exact h a k h1 h2 h3
theorem SFl.jn {lo hi mi : Nat} (h : SFl lo mi M) (h' : SFl mi hi M) : SFl lo hi M := fun a k h1 h2 h3 => by
  by_cases c : a < mi
  · exact h a k h1 c h3
  · exact h' a k (by omega) h2 h3
theorem one_ok {a k : Nat} (h1 : setOK M a = true) (hk : isRf a k = true) : M a k = 1 := by
  unfold setOK at h1
  rw [List.all_eq_true] at h1
  have hl : k < (bif Nat.beq (tyA a) 16 then 10 else (fkT.getD (tyA a) []).length) := by
    unfold isRf at hk
    cases hb : Nat.beq (tyA a) 16 with
    | true =>
      have e : tyA a = 16 := nbeq_t hb
      rw [hb] at hk
      simp only [Bool.true_and, Bool.or_eq_true] at hk
      rcases hk with hk | hk
      · exact Nat.le_of_ble_eq_true hk
      · rw [e] at hk; cases hk
    | false =>
      rw [hb] at hk
      simp only [Bool.false_and, Bool.false_or] at hk
      show k < (fkT.getD (tyA a) []).length
      rcases Nat.lt_or_ge k (fkT.getD (tyA a) []).length with q | q
      · exact q
      · exfalso
        unfold fkA at hk
        rw [List.getD_eq_getElem?_getD, List.getElem?_eq_none q] at hk
        cases hk
  have h2 := h1 k (List.mem_range.mpr hl)
  rw [hk] at h2
  simpa using h2
def okFl (lo n : Nat) (M : Mem) : Bool := (List.range n).all fun i => setOK M (lo + i)
theorem sr_ok {lo n hi : Nat} (h : okFl lo n M = true) (e : hi = lo + n) : SFl lo hi M := fun a k h1 h2 h3 => by
  unfold okFl at h
  rw [List.all_eq_true] at h
  have h4 := h (a - lo) (List.mem_range.mpr (by omega))
  rw [show lo + (a - lo) = a by omega] at h4
  exact one_ok h4 h3
theorem SFl.ag {lo hi N : Nat} (h : SFl lo hi M') (ha : AG N M M') (hN : hi ≤ N) : SFl lo hi M := h.fr fun b _ hb => ha b (by omega)
theorem FR58 {b : Nat} (h : b < 1) : cM58 M b = M b := by
  unfold cM58
  rw [upB (by omega), upB (by omega), FR10 (by omega), nlB (by omega)]
theorem FR203 {b : Nat} (h : b < 4) : cM203 M b = M b := by
  unfold cM203
  rw [upB (by omega), FR151 (by omega), nlB (by omega)]
theorem FR148 {b : Nat} (h : b < 39) : cM148 M b = M b := by
  unfold cM148
  rw [upB (by omega), FR99 (by omega), nlB (by omega)]
theorem FRac {b : Nat} (h : b < 133) : ∀ k, acM M k b = M b
  | 0 => by
    show upM (nlM M 134) 133 0 1 b = M b
    rw [upB (by omega), nlB (by omega)]
  | k + 1 => by
    show upM (cM154 (nlM (acM M k) (135 + 50 * k)) (135 + 50 * k)) 134 k 1 b = M b
    rw [upB (by omega), FR154 (by omega), nlB (by omega)]
    exact FRac h k
theorem FR214 {b : Nat} (h : b < 133) : cM214 M b = M b := FRac h 10

def mk1 (M : Mem) : Mem := cM58 (nlM M 1)
theorem mk1_ag (h : AG 1 M M') : AG 4 (mk1 M) (mk1 M') := AG58 (ag_nl h)
theorem mk1_k : okFl 1 3 (mk1 Z0) = true := by decide +kernel
theorem mk1_s (h : AG 1 M Z0) : SFl 1 4 (mk1 M) := (sr_ok mk1_k rfl).ag (mk1_ag h) (by omega)
def mk2 (M : Mem) : Mem := cM203 (nlM (upM (mk1 M) 0 0 1) 4)
theorem mk2_ag (h : AG 1 M M') : AG 39 (mk2 M) (mk2 M') := AG203 (ag_nl (ag_up (mk1_ag h)))
theorem mk2_fr {b : Nat} (h0 : 1 ≤ b) (h : b < 4) : mk2 M b = mk1 M b := by
  unfold mk2
  rw [FR203 (by omega), nlB (by omega), upB (by omega)]
theorem mk2_k : okFl 4 35 (mk2 Z0) = true := by decide +kernel
theorem mk2_s (h : AG 1 M Z0) : SFl 1 39 (mk2 M) := ((mk1_s h).fr fun b h1 h2 => mk2_fr h1 h2).jn ((sr_ok mk2_k rfl).ag (mk2_ag h) (by omega))
def mk3 (M : Mem) : Mem := cM148 (nlM (upM (mk2 M) 0 1 1) 39)
theorem mk3_ag (h : AG 1 M M') : AG 49 (mk3 M) (mk3 M') := AG148 (ag_nl (ag_up (mk2_ag h)))
theorem mk3_fr {b : Nat} (h0 : 1 ≤ b) (h : b < 39) : mk3 M b = mk2 M b := by
  unfold mk3
  rw [FR148 (by omega), nlB (by omega), upB (by omega)]
theorem mk3_k : okFl 39 10 (mk3 Z0) = true := by decide +kernel
theorem mk3_s (h : AG 1 M Z0) : SFl 1 49 (mk3 M) := ((mk2_s h).fr fun b h1 h2 => mk3_fr h1 h2).jn ((sr_ok mk3_k rfl).ag (mk3_ag h) (by omega))
def mk4 (M : Mem) : Mem := cM151 (nlM (upM (mk3 M) 0 2 1) 49) 49
theorem mk4_ag (h : AG 1 M M') : AG 83 (mk4 M) (mk4 M') := AG151 (ag_nl (ag_up (mk3_ag h)))
theorem mk4_fr {b : Nat} (h0 : 1 ≤ b) (h : b < 49) : mk4 M b = mk3 M b := by
  unfold mk4
  rw [FR151 (by omega), nlB (by omega), upB (by omega)]
theorem mk4_k : okFl 49 34 (mk4 Z0) = true := by decide +kernel
theorem mk4_s (h : AG 1 M Z0) : SFl 1 83 (mk4 M) := ((mk3_s h).fr fun b h1 h2 => mk4_fr h1 h2).jn ((sr_ok mk4_k rfl).ag (mk4_ag h) (by omega))
def mk5 (M : Mem) : Mem := cM154 (nlM (upM (mk4 M) 0 3 1) 83) 83
theorem mk5_ag (h : AG 1 M M') : AG 133 (mk5 M) (mk5 M') := AG154 (ag_nl (ag_up (mk4_ag h)))
theorem mk5_fr {b : Nat} (h0 : 1 ≤ b) (h : b < 83) : mk5 M b = mk4 M b := by
  unfold mk5
  rw [FR154 (by omega), nlB (by omega), upB (by omega)]
theorem mk5_k : okFl 83 50 (mk5 Z0) = true := by decide +kernel
theorem mk5_s (h : AG 1 M Z0) : SFl 1 133 (mk5 M) := ((mk4_s h).fr fun b h1 h2 => mk5_fr h1 h2).jn ((sr_ok mk5_k rfl).ag (mk5_ag h) (by omega))
def mk6 (M : Mem) : Mem := cM214 (nlM (upM (mk5 M) 0 4 1) 133)
theorem mk6_ag (h : AG 1 M M') : AG 635 (mk6 M) (mk6 M') := AG214 (ag_nl (ag_up (mk5_ag h)))
theorem mk6_fr {b : Nat} (h0 : 1 ≤ b) (h : b < 133) : mk6 M b = mk5 M b := by
  unfold mk6
  rw [FR214 (by omega), nlB (by omega), upB (by omega)]
def mkn (M : Mem) : Mem := nlM (upM (mk5 M) 0 4 1) 133
theorem mk6_a : okFl 133 2 (acM (mkn Z0) 10) = true := by decide +kernel
theorem mk6_b : ∀ k : Nat, k < 10 → okFl (135 + 50 * k) 50 (acM (mkn Z0) (k + 1)) = true := by decide +kernel
theorem mk6_c (h : AG 134 M (mkn Z0)) : ∀ k, k ≤ 10 → SFl 135 (135 + 50 * k) (acM M k)
  | 0, _ => fun a k h1 h2 => by omega
  | k + 1, hk => by
    refine ((mk6_c h k (by omega)).fr fun b h1 h2 => ?_).jn ((sr_ok (mk6_b k (by omega)) rfl).ag (AGac h (k + 1)) (by omega))
    show upM (cM154 (nlM (acM M k) (135 + 50 * k)) (135 + 50 * k)) 134 k 1 b = acM M k b
    rw [upB (by omega), FR154 (by omega), nlB (by omega)]
theorem mk6_k (h : AG 1 M Z0) : SFl 133 635 (mk6 M) := ((sr_ok (hi := 135) mk6_a rfl).ag (mk6_ag h) (by omega : 135 ≤ 635)).jn (mk6_c (ag_nl (ag_up (mk5_ag h))) 10 (by omega))
theorem mk6_s (h : AG 1 M Z0) : SFl 1 635 (mk6 M) := ((mk5_s h).fr fun b h1 h2 => mk6_fr h1 h2).jn (mk6_k h)
def mk7 (M : Mem) : Mem := cM154 (nlM (upM (mk6 M) 0 5 1) 635) 635
theorem mk7_ag (h : AG 1 M M') : AG 685 (mk7 M) (mk7 M') := AG154 (ag_nl (ag_up (mk6_ag h)))
theorem mk7_fr {b : Nat} (h0 : 1 ≤ b) (h : b < 635) : mk7 M b = mk6 M b := by
  unfold mk7
  rw [FR154 (by omega), nlB (by omega), upB (by omega)]
theorem mk7_k : okFl 635 50 (mk7 Z0) = true := by decide +kernel
theorem mk7_s (h : AG 1 M Z0) : SFl 1 685 (mk7 M) := ((mk6_s h).fr fun b h1 h2 => mk7_fr h1 h2).jn ((sr_ok mk7_k rfl).ag (mk7_ag h) (by omega))
def mk8 (M : Mem) : Mem := cM154 (nlM (upM (mk7 M) 0 6 1) 685) 685
theorem mk8_ag (h : AG 1 M M') : AG 735 (mk8 M) (mk8 M') := AG154 (ag_nl (ag_up (mk7_ag h)))
theorem mk8_fr {b : Nat} (h0 : 1 ≤ b) (h : b < 685) : mk8 M b = mk7 M b := by
  unfold mk8
  rw [FR154 (by omega), nlB (by omega), upB (by omega)]
theorem mk8_k : okFl 685 50 (mk8 Z0) = true := by decide +kernel
theorem mk8_s (h : AG 1 M Z0) : SFl 1 735 (mk8 M) := ((mk7_s h).fr fun b h1 h2 => mk8_fr h1 h2).jn ((sr_ok mk8_k rfl).ag (mk8_ag h) (by omega))
def mk9 (M : Mem) : Mem := cM151 (nlM (upM (mk8 M) 0 7 1) 735) 735
theorem mk9_ag (h : AG 1 M M') : AG 769 (mk9 M) (mk9 M') := AG151 (ag_nl (ag_up (mk8_ag h)))
theorem mk9_fr {b : Nat} (h0 : 1 ≤ b) (h : b < 735) : mk9 M b = mk8 M b := by
  unfold mk9
  rw [FR151 (by omega), nlB (by omega), upB (by omega)]
theorem mk9_k : okFl 735 34 (mk9 Z0) = true := by decide +kernel
theorem mk9_s (h : AG 1 M Z0) : SFl 1 769 (mk9 M) := ((mk8_s h).fr fun b h1 h2 => mk9_fr h1 h2).jn ((sr_ok mk9_k rfl).ag (mk9_ag h) (by omega))
def mk10 (M : Mem) : Mem := cM154 (nlM (upM (mk9 M) 0 8 1) 769) 769
theorem mk10_ag (h : AG 1 M M') : AG 819 (mk10 M) (mk10 M') := AG154 (ag_nl (ag_up (mk9_ag h)))
theorem mk10_fr {b : Nat} (h0 : 1 ≤ b) (h : b < 769) : mk10 M b = mk9 M b := by
  unfold mk10
  rw [FR154 (by omega), nlB (by omega), upB (by omega)]
theorem mk10_k : okFl 769 50 (mk10 Z0) = true := by decide +kernel
theorem mk10_s (h : AG 1 M Z0) : SFl 1 819 (mk10 M) := ((mk9_s h).fr fun b h1 h2 => mk10_fr h1 h2).jn ((sr_ok mk10_k rfl).ag (mk10_ag h) (by omega))
theorem c226_0 : okFl 0 1 (cM226 Z0) = true := by decide +kernel
theorem c226_s (h : AG 1 M Z0) : SFl 0 819 (cM226 M) := ((sr_ok (hi := 1) c226_0 rfl).ag (AG226 h) (by omega)).jn ((mk10_s h).fr fun b h1 h2 => by
  show upM (upM (mk10 M) 0 9 1) 0 11 (-1) b = mk10 M b
  rw [upB (by omega), upB (by omega)])
end STA
