/-! the law's start: its world, and its end -/
section WLD
set_option maxRecDepth 100000
variable {M M' M0 M1 M2 : Mem} {X : PX} {n m i p t k e L : Nat} {o : Int64} {xs : Nat → Int32}
theorem nu_1 {z : Int} (h : z ≠ 0) (h2 : z < 174) : nuR 4 z = 0 := by
  unfold nuR
  rw [if_neg h, if_neg (by omega)]
theorem W9_0 (hc : ∀ b, b < 83 ∨ 133 ≤ b → b < 819 → M b = upM (cM226 Z0) 49 0 4 b) (h83 : M 83 0 = ii 0) (h17 : M 83 17 = ii (-1)) (h6 : M 84 6 = ii 4) (h7 : M 84 7 = ii 0) (l1 : M 130 1 = ii 0) (l2 : M 130 2 = ii 0) (hr : ∀ i, i < 40 → M 86 i = ii (-1) ∧ M 88 i = ii (-1) ∧ M 90 i = ii (-1) ∧ M 96 i = ii (-1)) (hq : ∀ i, i < 6 → M 103 i = ii 0) (hz : ∀ q, q ∈ [111, 113, 115, 117, 119, 121, 123, 125, 127] → ∀ i, i < 6 → M q i = ii 0) (hw : ∀ i, i < 8 → M 129 i = ii 0)
    (g5 : M 819 5 = 0) (g6 : M 819 6 = 0) (g17 : M 819 17 = 0) (g8 : M 819 8 = -1) (g25 : M 819 25 = -1) (ht : ∀ z : Nat, z < 1434 → M 820 z = ii (nuR 4 z)) : W9 0 M := by
  have hi : RdI (nuR 4) := nuR_I (by omega)
  have e0 : nuR 4 0 = 4 := rfl
  have cc : ∀ b j, b < 83 ∨ 133 ≤ b → b < 819 → b ≠ 49 → M b j = cM226 Z0 b j := fun b j h1 h2 h3 => by
    rw [hc b h1 h2, up_n h3]
  have c9 : ∀ j, j ≠ 0 → M 49 j = cM226 Z0 49 j := fun j hj => by
    rw [hc 49 (by omega) (by omega), up_s, if_neg hj]
  have hl : LwP (fun _ => 0) 0 (nuR 4) [] 0 0 := Or.inl ⟨rfl, rfl, rfl⟩
  have hT : TxM M (fun _ => 0) (nuR 4) 0 0 := ⟨ht 10 (by omega), fun w => by rw [nu_1 (by omega) (by omega)] at w; omega⟩
  have hLW : LW (bgA (nuR 4) []) := ⟨by rw [bg_81]; exact Int.le_refl 0, by rw [bg_81]; show (0 : Int) ≤ 500; omega, fun j j0 j1 => by
    rw [bg_81] at j1
    have j1 : j < 0 := j1
    omega, fun w => by rw [bg_0, nu_1 (by omega) (by omega)] at w; omega⟩
  have hPW : PW (bgA (nuR 4) []) 0 := bg_PW hi hLW
  have hRR : RR M (bgA (nuR 4) []) := bg_RR hi fun z hz => ht z (by omega)
  have v0 : ∀ (t F : Nat) (N : Int), N = 0 → RW M t N (bgA (nuR 4) []) F := fun t F N hN j j0 j1 => by omega
  have n1 := nu_1 (z := 1) (by omega) (by omega)
  have n2 := nu_1 (z := 2) (by omega) (by omega)
  have n3 := nu_1 (z := 3) (by omega) (by omega)
  have n4 := nu_1 (z := 4) (by omega) (by omega)
  have n9 := nu_1 (z := 9) (by omega) (by omega)
  refine ⟨bgA (nuR 4) [], 0, fun _ => bgA (nuR 4) [], false, bgA (nuR 4) [], 0, fun _ => 0, -1, ⟨⟨⟨?_, ?_, ?_, ?_, ?_, ?_, v0 _ _ _ n1, v0 _ _ _ n1, v0 _ _ _ n2, v0 _ _ _ n2, v0 _ _ _ n3, v0 _ _ _ n4, v0 _ _ _ n4, v0 _ _ _ n4, v0 _ _ _ n4, ?_, v0 _ _ _ rfl⟩, ?_, h17⟩, ⟨0, by omega, by omega, ?_, ?_, fun i hi => by omega⟩, ⟨?_, fun w => (by cases w)⟩, ⟨?_, fun i hi => by omega⟩, ?_⟩, ⟨⟨hRR, bg_TXT hl (by omega) (fun i hi => by omega) hT, bg_TXL hl (by omega) (fun i hi => by omega) hT, g8⟩, ⟨g6, by omega, fun i hi => by omega⟩, ⟨g5, fun w => (by cases w)⟩, ⟨g17, fun i hi => by omega⟩, g25.trans ii_m1⟩, ⟨hPW.le (by omega), by omega, fun i hi => by omega, fun w => (by cases w), by omega, fun i hi => by omega, by omega, by omega⟩⟩
  · rw [hc 49 (by omega) (by omega), up_s, if_pos rfl, bg_0, e0]; rfl
  · rw [c9 1 (by omega), bg_0, n1]; exact (by decide +kernel : cM226 Z0 49 1 = 0)
  · rw [c9 4 (by omega), bg_0, n2]; exact (by decide +kernel : cM226 Z0 49 4 = 0)
  · rw [c9 7 (by omega), bg_0, n3]; exact (by decide +kernel : cM226 Z0 49 7 = 0)
  · rw [c9 12 (by omega), bg_0, n4]; exact (by decide +kernel : cM226 Z0 49 12 = 0)
  · rw [c9 17 (by omega), bg_0, n9]; exact (by decide +kernel : cM226 Z0 49 17 = 0)
  · rw [cc 74 2 (by omega) (by omega) (by omega), bg_81]; exact (by decide +kernel : cM226 Z0 74 2 = 0)
  · exact bg_STv hi h83 h6 h7 l1 l2 hr hq (fun i h => by rw [n3] at h; omega) hz hw
  · rw [cc 133 1 (by omega) (by omega) (by omega)]; exact (by decide +kernel : cM226 Z0 133 1 = 0)
  · rw [cc 133 2 (by omega) (by omega) (by omega)]; exact (by decide +kernel : cM226 Z0 133 2 = 0)
  · rw [cc 0 10 (by omega) (by omega) (by omega)]; exact (by decide +kernel : cM226 Z0 0 10 = 0)
  · rw [cc 1 1 (by omega) (by omega) (by omega)]; exact (by decide +kernel : cM226 Z0 1 1 = 0)
  · rw [cc 0 11 (by omega) (by omega) (by omega)]; exact (by decide +kernel : cM226 Z0 0 11 = -1)
theorem pi_go (hL : L ≤ 3072) : ∃ M' X', ev false 311 0 0 (padl 8 (expd [pR 17 0])) [] (M00 xs) (0, 0, 0, 0, 0, L) = some (.inl (some (pI 1)), M', X') := by
  have hN : AG 1 (nlM (M00 xs) 0) Z0 := fun b hb => by
    obtain rfl : b = 0 := by omega
    funext y
    unfold nlM
    rw [if_pos rfl]
    rfl
  obtain ⟨N, eN⟩ : ∃ N, N = nlM (M00 xs) 0 := ⟨_, rfl⟩
  rw [← eN] at hN
  obtain ⟨x, y, kK⟩ := K226 (M := N) (o := 0) (L := L)
  have hS : setA 819 (cM226 N) = true := set_iff.2 fun a k ha hk => c226_s hN a k (by omega) ha hk
  obtain ⟨M1, a1, a2, a3, a4, a5, a6, a7, a8, a9, a10, -, a12, a13⟩ := S208 (M := upM (cM226 N) 49 0 4) (X := (0, 819, 819, x, y, L)) (v := 4) (by rw [up_s, if_pos rfl]; rfl)
  have hK : KR (upM (cM226 N) 49 0 4) M1 := by
    obtain ⟨M2, b1, b2⟩ := S208k (M := upM (cM226 N) 49 0 4) (X := (0, 819, 819, x, y, L))
    have e := a1.symm.trans b1
    simp only [Option.some.injEq, Prod.mk.injEq] at e
    rw [e.2.1]
    exact b2
  have k1 : ev false 226 0 0 [pR 1 0] [] N (0, 1, 1, 0, 0, L) = some (.inl none, M1, (0, 819, 819, x, y, L)) := by
    rw [kK, q226i_119, if_pos hS, qM226_119, a1]
    show ev true 226 0 138 [pR 1 0] [] M1 (0, 819, 819, x, y, L) = _
    rw [qM226_138]
  obtain ⟨M2, b1, b2, b3⟩ := K106 (M := M1) (o := 0) (L := L)
  obtain ⟨M3, e3⟩ : ∃ M3, M3 = nlM M2 828 := ⟨_, rfl⟩
  have f3 : ∀ b, b ≠ 820 → b ≠ 828 → M3 b = cM106 M1 b := fun b h1 h2 => by rw [e3, nlB h2, b2 b h1]
  have f4 : ∀ b, b < 819 → M3 b = M1 b := fun b h1 => by rw [f3 b (by omega) (by omega), c106_f h1]
  have f5 : ∀ j, M3 819 j = cM106 M1 819 j := fun j => by rw [f3 819 (by omega) (by omega)]
  obtain ⟨c0, c1, c2, c3, c4, c9, c12, c16, c5, c6, c17, c8, c25⟩ := c106_c (M := M1)
  have hS2 : setA 829 M3 = true := by
    refine set829 (fun a k ha hk => ?_) fun k hk => ?_
    · rw [f4 a ha, hK a k hk, kr_up (by decide +kernel) a k hk]
      exact c226_s hN a k (by omega) ha hk
    · rw [f5]
      rcases hk with rfl | rfl | rfl | rfl | rfl | rfl | rfl | rfl <;> assumption
  have hAG := AG226 hN
  have hW : W9 0 M3 := by
    refine W9_0 (fun b h1 h2 => ?_) ?_ ?_ ?_ ?_ ?_ ?_ (fun i hi => ?_) (fun i hi => ?_) (fun q hq i hi => ?_) (fun i hi => ?_) ?_ ?_ ?_ ?_ ?_ (fun z hz => ?_)
    · rw [f4 b h2, a2 b h1]
      funext j
      unfold upM
      rw [hAG b h2]
    · rw [f4 83 (by omega)]; exact a3
    · rw [f4 83 (by omega)]; exact a4
    · rw [f4 84 (by omega)]; exact a5
    · rw [f4 84 (by omega)]; exact a6
    · rw [f4 130 (by omega)]; exact a7
    · rw [f4 130 (by omega)]; exact a8
    · rw [f4 86 (by omega), f4 88 (by omega), f4 90 (by omega), f4 96 (by omega)]; exact a9 i hi
    · rw [f4 103 (by omega)]; exact a10 i hi
    · have hq9 : q < 819 := (by decide : ∀ q ∈ [111, 113, 115, 117, 119, 121, 123, 125, 127], q < 819) q hq
      rw [f4 q hq9]; exact a12 q hq i hi
    · rw [f4 129 (by omega)]; exact a13 i hi
    · rw [f5]; exact c5
    · rw [f5]; exact c6
    · rw [f5]; exact c17
    · rw [f5]; exact c8
    · rw [f5]; exact c25
    · rw [e3, nlB (by omega)]; exact b3 z hz
  have l828 : ln 828 = 1 := by decide +kernel
  obtain ⟨M', X', h9⟩ := law_lp hL 600 0 M3 (0, 829, 829, 829, 407448 + ln 828, L) p0 p0 p0 (by omega) (by omega) hW ⟨rfl, by show 829 ≤ 1000 + 0; omega, by show 407448 + ln 828 ≤ 500000 + 6 * 0; omega⟩
  refine ⟨M', X', ?_⟩
  show ev false 311 0 0 [pR 17 0, p0, p0, p0, p0, p0, p0, p0] [] (M00 xs) (0, 0, 0, 0, 0, L) = _
  rw [q311i_0, if_pos (by exact ⟨(by decide +kernel : tyA 0 = 1), rfl, (by decide : 0 + 1 ≤ mcM 311), (by decide : 0 + 12 ≤ msM 311)⟩), if_pos (by exact ⟨(by decide : 1 + 818 ≤ mcM 311), (by decide : 12 + 188430 ≤ msM 311)⟩)]
  show (ev false 226 0 0 [pR 1 0] [] (nlM (M00 xs) 0) (0, 1, 1, 0, 0, L)).bind _ = _
  rw [← eN, k1, kf]
  show ev false 311 0 7 [pR 17 0, p0, p0, p0, p0, p0, p0, p0] [pR 1 0] M1 (0, 819, 819, 819, 188442, L) = _
  rw [q311i_7, if_pos (by exact ⟨(by decide +kernel : tyA 819 = 13), rfl, (by decide : 819 + 1 ≤ mcM 311), (by decide : 188442 + 28 ≤ msM 311)⟩), if_pos (by exact ⟨(by decide : 820 + 8 ≤ mcM 311), (by decide : 188470 + 218978 ≤ msM 311)⟩)]
  show (ev false 106 0 0 [pR 13 819] [] (nlM M1 819) (0, 820, 820, 0, 0, L)).bind _ = _
  rw [b1, kf]
  show ev false 311 0 15 [pR 17 0, pR 1 0, p0, p0, p0, p0, p0, p0] [pR 13 819] M2 (0, 828, 828, 828, 407448, L) = _
  rw [q311i_15, if_pos (by exact ⟨(by decide +kernel : tyA 828 = 15), rfl, (by decide : ¬ (1 : Int32) < 0), (by decide +kernel : (1 : Int32).toNatClampNeg = ln 828), (by decide : 828 + 1 ≤ mcM 311), (by decide +kernel : 407448 + ln 828 ≤ msM 311)⟩)]
  show ev false 311 0 20 [pR 17 0, pR 1 0, pR 13 819, pR 15 828, p0, p0, p0, p0] [] (nlM M2 828) (0, 829, 829, 829, 407448 + ln 828, L) = _
  rw [← e3, q311i_20, if_pos (by exact hS2), qL311_20]
  exact h9
end WLD
