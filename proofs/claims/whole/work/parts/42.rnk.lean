/-! a side's rank -/
section RNK
set_option maxRecDepth 100000
variable {u s p l t g : Nat} {j k q e w c T n tu nx v off : Int} {A A' : AT} {M M' : Mem} {X : PX} {f : Nat}
def codeL (A : AT) : List Int := (List.range' 0 (A 81 0).toNat).map fun (k : Nat) => A 80 k
/-- the law is well formed -/
def LW (A : AT) : Prop := 0 ≤ A 81 0 ∧ A 81 0 ≤ 500 ∧ (∀ i, 0 ≤ i → i < A 81 0 → -100 ≤ A 80 i ∧ A 80 i < 100000) ∧ (A 0 9 = 1 → ∀ pv, ∃ v, evS pv (codeL A) [] = some [v])
theorem LW.sp (h : LW A) (hs : SP A A') : LW A' := by
  obtain ⟨a1, a2, a3, a4, a5, a6, a7, a8, a9, a10, a11, a12, a13, a14, a15, a16, a17⟩ := hs
  unfold LW codeL
  rw [a6, a16, a17]
  exact h
theorem CD_of {t : Nat} : ∀ (m i : Nat), (∀ y : Int, i ≤ y → y < i + m → cl M t y = ii (A 80 y) ∧ -100 ≤ A 80 y ∧ A 80 y < 100000) → CD M t i ((List.range' i m).map fun (k : Nat) => A 80 k)
  | 0, _, _ => trivial
  | m + 1, i, h => ⟨(h i (by omega) (by omega)).1, (h i (by omega) (by omega)).2, CD_of m (i + 1) fun y h1 h2 => h y (by omega) (by omega)⟩
def pvA (A : AT) (j : Int) : Int → Int32 := fun k => if k = 0 then ii (A 45 j) else if k = 1 then ii (A 43 j) else if k = 2 then ii (A 44 j) else if k = 3 then ii (A 41 j) else if k = 4 then ii (A 90 j) else if k = 5 then ii (lateA A j) else if k = 6 then ii (urgA A j) else ii j
def rkA (A : AT) (j : Int) : Int32 := if A 0 9 = 0 then ii (A 45 j) else hdS ((evS (pvA A j) (codeL A) []).getD [])
theorem S157 (h : WS M p s A T) (hw : LW A) (h1 : 0 ≤ j) (h2 : j < A 0 3) : ∃ M', ev true 157 0 0 [pR 6 s, pR 5 p, pI (ii j), p0] [] M X = some (.inl (some (pI (rkA A j))), M', X) ∧ ∀ b, b ≠ p + 27 → b ≠ p + 31 → M' b = M b := by
  obtain ⟨hp, hpl, hs, hl, hi, hT, hd⟩ := h
  obtain ⟨g1, g2, g3, g4, g5, g6, g7, g8, g9, g10, g11, g12, g13, g14, g15, g16⟩ := hi.1
  have l27 : rl (s + 27) = 6 := hl.2.2.2.2.2.2.2.1
  have l25 : rl (s + 25) = 6 := hl.2.2.2.2.2.2.1
  have l21 : rl (s + 21) = 6 := hl.2.2.2.2.1
  have l19 : rl (s + 19) = 6 := hl.2.2.2.1
  have l29 : rl (s + 29) = 6 := hl.2.2.2.2.2.2.2.2.1
  have m26 : rl (p + 26) = 8 := hpl.2.2.2.2.2.2.2.2.2.2.2.2.1
  have m30 : rl (p + 30) = 64 := hpl.2.2.2.2.2.2.2.2.2.2.2.2.2.2.1
  have m32 : rl (p + 32) = 500 := hpl.2.2.2.2.2.2.2.2.2.2.2.2.2.2.2
  have P : ∀ Mk : Mem, (∀ b, b ≠ p + 27 → Mk b = M b) → PLv Mk p A ∧ STv Mk s A := fun Mk hk => ⟨PLv_k hp (fun b _ _ b3 _ => hk b b3) SP.rf, STv_k hs (fun b b1 b2 => hk b (by omega)) rfl⟩
  have R45 : ∀ Mk : Mem, (∀ b, b ≠ p + 27 → Mk b = M b) → cl Mk (s + 27) j = ii (A 45 j) := fun Mk hk => (P Mk hk).2.2.2.2.2.2.2.2.1 j h1 h2
  have R43 : ∀ Mk : Mem, (∀ b, b ≠ p + 27 → Mk b = M b) → cl Mk (s + 25) j = ii (A 43 j) := fun Mk hk => (P Mk hk).2.2.2.2.2.2.2.1 j h1 h2
  have R41 : ∀ Mk : Mem, (∀ b, b ≠ p + 27 → Mk b = M b) → cl Mk (s + 21) j = ii (A 41 j) := fun Mk hk => (P Mk hk).2.2.2.2.2.1 j h1 h2
  have R90 : ∀ Mk : Mem, (∀ b, b ≠ p + 27 → Mk b = M b) → cl Mk (s + 29) j = ii (A 90 j) := fun Mk hk => (P Mk hk).2.2.2.2.2.2.2.2.2.1 j h1 h2
  have R44 : ∀ Mk : Mem, (∀ b, b ≠ p + 27 → Mk b = M b) → cl Mk (s + 19) j = ii (A 44 j) := fun Mk hk => ((P Mk hk).2.2.2.1 j h1 (by omega)).2.2.1
  unfold rkA
  rw [q157_0, hp.2.2.2.2.2.1, i_0, ieq (by omega)]
  by_cases h9 : A 0 9 = 0
  · rw [if_pos h9, if_pos h9, S12 h1 (by omega), kb1, q157_15, R45 M (fun _ _ => rfl)]
    exact ⟨M, rfl, fun _ _ _ => rfl⟩
  · obtain ⟨v, hv⟩ := hw.2.2.2 (by omega) (pvA A j)
    obtain ⟨M1, e1⟩ : ∃ M1, M1 = sc M (p + 26) 0 (ii (A 45 j)) := ⟨_, rfl⟩
    obtain ⟨M2, e2⟩ : ∃ M2, M2 = sc M1 (p + 26) 1 (ii (A 43 j)) := ⟨_, rfl⟩
    obtain ⟨M3, e3⟩ : ∃ M3, M3 = sc M2 (p + 26) 2 (ii (A 44 j)) := ⟨_, rfl⟩
    obtain ⟨M4, e4⟩ : ∃ M4, M4 = sc M3 (p + 26) 3 (ii (A 41 j)) := ⟨_, rfl⟩
    obtain ⟨M5, e5⟩ : ∃ M5, M5 = sc M4 (p + 26) 4 (ii (A 90 j)) := ⟨_, rfl⟩
    obtain ⟨M6, e6⟩ : ∃ M6, M6 = sc M5 (p + 26) 5 (ii (lateA A j)) := ⟨_, rfl⟩
    obtain ⟨M7, e7⟩ : ∃ M7, M7 = sc M6 (p + 26) 6 (ii (urgA A j)) := ⟨_, rfl⟩
    obtain ⟨M8, e8⟩ : ∃ M8, M8 = sc M7 (p + 26) 7 (ii j) := ⟨_, rfl⟩
    have k1 : ∀ b, b ≠ p + 27 → M1 b = M b := fun b hb => by rw [e1]; funext y; exact sc_n (by omega)
    have k2 : ∀ b, b ≠ p + 27 → M2 b = M b := fun b hb => by rw [← k1 b hb, e2]; funext y; exact sc_n (by omega)
    have k3 : ∀ b, b ≠ p + 27 → M3 b = M b := fun b hb => by rw [← k2 b hb, e3]; funext y; exact sc_n (by omega)
    have k4 : ∀ b, b ≠ p + 27 → M4 b = M b := fun b hb => by rw [← k3 b hb, e4]; funext y; exact sc_n (by omega)
    have k5 : ∀ b, b ≠ p + 27 → M5 b = M b := fun b hb => by rw [← k4 b hb, e5]; funext y; exact sc_n (by omega)
    have k6 : ∀ b, b ≠ p + 27 → M6 b = M b := fun b hb => by rw [← k5 b hb, e6]; funext y; exact sc_n (by omega)
    have k7 : ∀ b, b ≠ p + 27 → M7 b = M b := fun b hb => by rw [← k6 b hb, e7]; funext y; exact sc_n (by omega)
    have k8 : ∀ b, b ≠ p + 27 → M8 b = M b := fun b hb => by rw [← k7 b hb, e8]; funext y; exact sc_n (by omega)
    have hpv : ∀ k, 0 ≤ k → k < 8 → cl M8 (p + 25 + 1) k = pvA A j k := by
      intro k a b
      rw [e8, e7, e6, e5, e4, e3, e2, e1]
      show cl _ (p + 26) k = _
      unfold pvA
      rcases (by omega : k = 0 ∨ k = 1 ∨ k = 2 ∨ k = 3 ∨ k = 4 ∨ k = 5 ∨ k = 6 ∨ k = 7) with rfl | rfl | rfl | rfl | rfl | rfl | rfl | rfl <;> simp (disch := omega) only [cl_sc, if_pos, if_neg, if_true, if_false]
    have hcl : (codeL A).length = (A 81 0).toNat := by unfold codeL; rw [List.length_map, List.length_range']
    obtain ⟨w1, w2, w3, w4⟩ := hw
    have p8 := (P M8 k8).1
    have hcd : CD M8 (p + 25 + 7) 0 (codeL A) := CD_of _ 0 fun y y1 y2 => ⟨p8.2.2.2.2.2.2.2.2.2.2.2.2.2.2.2.2 y (by omega) (by omega), w3 y (by omega) (by omega)⟩
    obtain ⟨M', t1, t2⟩ := S104 (X := X) (F := p + 25) (M := M8) (cs := codeL A) (st' := [v]) m26 m30 (by show rl (p + 32) ≤ 500; omega) (by rw [hcl, p8.2.2.2.2.2.2.2.2.2.2.2.2.2.2.2.1, show ((A 81 0).toNat : Int) = A 81 0 by omega]) (by rw [hcl]; show _ ≤ rl (p + 32); omega) hpv hcd hv
    refine ⟨M', ?_, fun b b1 b2 => by rw [t2 b b2, k8 b b1]⟩
    rw [if_neg h9, if_neg h9, S12 h1 (by omega), kb1, q157_34, R45 M (fun _ _ => rfl), S11 (by omega) (by omega), kb0, ← e1, q157_37, S12 h1 (by omega), kb1, R43 M1 k1, q157_47, i_1, S11 (by omega) (by omega), kb0, ← e2, q157_50, S12 h1 (by omega), kb1, R44 M2 k2, q157_63, i_2, S11 (by omega) (by omega), kb0, ← e3, q157_66, S12 h1 (by omega), kb1, R41 M3 k3, q157_76, i_3, S11 (by omega) (by omega), kb0, ← e4, q157_79, S12 h1 (by omega), kb1, R90 M4 k4, q157_89, i_4, S11 (by omega) (by omega), kb0, ← e5, q157_92, S69 (P M5 k5).2 hl hi h1 h2, kb1, q157_99, i_5, S11 (by omega) (by omega), kb0, ← e6, q157_102, S70 (P M6 k6).1 hpl (P M6 k6).2 hl hi h1 h2, kb1, q157_111, i_6, S11 (by omega) (by omega), kb0, ← e7, q157_114, i_7, S11 (by omega) (by omega), kb0, ← e8, q157_121, t1, kb1, q157_128, hv]
    rfl
/-- the nearest free place within reach: looked for from the k-th on, m of them -/
def neaA (A : AT) (x : Int) : Nat → Int
  | 0 => -1
  | m + 1 => if A 20 (prv (A 0 0) x) = -1 ∧ A 25 (prv (A 0 0) x) = -1 then prv (A 0 0) x else neaA A (prv (A 0 0) x) m
def nearA (A : AT) (j : Int) : Int := neaA A (A 40 j) (A 42 j).toNat
def gapA (A : AT) (j : Int) : Int := if A 90 j < A 44 j then nearA A j else -1
theorem nea_in (hN : 0 < A 0 0) : ∀ (m : Nat) (x : Int), 0 ≤ x → x < A 0 0 → -1 ≤ neaA A x m ∧ neaA A x m < A 0 0 ∧ (neaA A x m ≠ -1 → A 20 (neaA A x m) = -1 ∧ A 25 (neaA A x m) = -1)
  | 0, x, _, _ => by unfold neaA; exact ⟨Int.le_refl _, by omega, fun h => absurd rfl h⟩
  | m + 1, x, h1, h2 => by
    have hp : 0 ≤ prv (A 0 0) x ∧ prv (A 0 0) x < A 0 0 := by unfold prv; split <;> omega
    unfold neaA
    by_cases h : A 20 (prv (A 0 0) x) = -1 ∧ A 25 (prv (A 0 0) x) = -1
    · rw [if_pos h]; exact ⟨by omega, hp.2, fun _ => h⟩
    · rw [if_neg h]; exact nea_in hN m _ hp.1 hp.2
theorem gap_in (hi : INV A T) (h1 : 0 ≤ j) (h2 : j < A 0 3) : -1 ≤ gapA A j ∧ gapA A j < A 0 0 ∧ (gapA A j ≠ -1 → A 20 (gapA A j) = -1 ∧ A 25 (gapA A j) = -1) := by
  have hN := hi.1.1
  obtain ⟨d1, d2, -⟩ := hi.2.2.2.1 j h1 h2
  unfold gapA
  split
  · exact nea_in (by omega) _ _ d1 d2
  · exact ⟨Int.le_refl _, by omega, fun h => absurd rfl h⟩
theorem S160l (h : WS M p s A T) (h1 : 0 ≤ j) (h2 : j < A 0 3) : ∀ (m : Nat) (k x : Int), k + m = A 42 j → 0 ≤ k → 0 ≤ x → x < A 0 0 → ev true 160 0 36 [pR 6 s, pR 5 p, pI (ii j), pI (ii x), pI (ii k)] [] M X = some (.inl (some (pI (ii (neaA A x m)))), M, X) := by
  obtain ⟨hp, hpl, hs, hl, hi, hT, hd⟩ := h
  obtain ⟨g1, g2, g3, g4, g5, g6, g7, g8, g9, g10, g11, g12, g13, g14, g15, g16⟩ := hi.1
  obtain ⟨d1, d2, d3, d4, d5, d6, d7, d8, d9, d10, d11, d12, d13⟩ := hi.2.2.2.1 j h1 h2
  have l23 : rl (s + 23) = 6 := hl.2.2.2.2.2.1
  have r42 := hs.2.2.2.2.2.1 j h1 h2
  obtain ⟨tu, s2⟩ := hs.2.1
  intro m
  induction m with
  | zero =>
    intro k x a1 a2 a3 a4
    rw [q160_36, S12 h1 (by omega), kb1, q160_46, r42, ltF (by omega), ii_m1]
    rfl
  | succ m ih =>
    intro k x a1 a2 a3 a4
    have hpv : 0 ≤ prv (A 0 0) x ∧ prv (A 0 0) x < A 0 0 := by unfold prv; split <;> omega
    obtain ⟨y3, y4, y5, y6, y7, y8, y9, y10⟩ := hi.2.2.2.2.2.2 (prv (A 0 0) x) hpv.1 hpv.2
    have e : (if 0 < x then ev true 160 0 65 [pR 6 s, pR 5 p, pI (ii j), pI (ii x), pI (ii k)] [pI (ii (x - 1))] M X else ev true 160 0 65 [pR 6 s, pR 5 p, pI (ii j), pI (ii x), pI (ii k)] [pI (ii (A 0 0 - 1))] M X) = ev true 160 0 65 [pR 6 s, pR 5 p, pI (ii j), pI (ii x), pI (ii k)] [pI (ii (prv (A 0 0) x))] M X := by
      unfold prv
      by_cases c : x = 0
      · rw [if_neg (by omega), if_pos c]
      · rw [if_pos (by omega), if_neg c]
    rw [q160_36, S12 h1 (by omega), kb1, q160_46, r42, ltT (by omega), i_0, ilt (by omega), i_1, ii_sub, hp.1, ii_sub, e, q160_65, S87 s2 hl.1 hpv.1 hpv.2 (by omega) (by omega), kb1, q160_74, i_0, bIT]
    unfold neaA
    by_cases c : A 20 (prv (A 0 0) x) = -1 ∧ A 25 (prv (A 0 0) x) = -1
    · rw [decide_eq_true c, cond_true, if_pos c]
    · rw [decide_eq_false c, cond_false, if_neg c, i_1, ii_add]
      exact ih (k + 1) _ (by omega) (by omega) hpv.1 hpv.2
theorem S160 (h : WS M p s A T) (h90 : 0 ≤ A 90 j ∧ A 90 j ≤ 40) (h1 : 0 ≤ j) (h2 : j < A 0 3) : ev true 160 0 0 [pR 6 s, pR 5 p, pI (ii j), p0, p0] [] M X = some (.inl (some (pI (ii (gapA A j)))), M, X) := by
  have hw := h
  obtain ⟨hp, hpl, hs, hl, hi, hT, hd⟩ := h
  obtain ⟨g1, g2, g3, g4, g5, g6, g7, g8, g9, g10, g11, g12, g13, g14, g15, g16⟩ := hi.1
  obtain ⟨d1, d2, d3, d4, d5, d6, d7, d8, d9, d10, d11, d12, d13⟩ := hi.2.2.2.1 j h1 h2
  have l19 : rl (s + 19) = 6 := hl.2.2.2.1
  have l29 : rl (s + 29) = 6 := hl.2.2.2.2.2.2.2.2.1
  have l9 : rl (p + 9) = 6 := hpl.2.2.2.2.1
  have r44 : cl M (s + 19) j = ii (A 44 j) := (hs.2.2.1 j h1 (by omega)).2.2.1
  have r90 := hs.2.2.2.2.2.2.2.2.1 j h1 h2
  have r40 := hp.2.2.2.2.2.2.2.2.2.2.1 j h1 h2
  unfold gapA
  rw [q160_0, S12 h1 (by omega), kb1, q160_11, S12 h1 (by omega), kb1, q160_19, r44, r90, ilt (by omega)]
  by_cases c : A 90 j < A 44 j
  · rw [if_pos c, if_pos c, S12 h1 (by omega), kb1, q160_32, r40, i_0]
    exact S160l hw h1 h2 (A 42 j).toNat 0 (A 40 j) (by omega) (by omega) d1 d2
  · rw [if_neg c, if_neg c, ii_m1]
end RNK
