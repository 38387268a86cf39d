/-! a tick; runs of ticks -/
section STP
set_option maxRecDepth 100000
variable {u s p l t g : Nat} {j k q e w c T tu nx v off sh i : Int} {A A' : AT} {M M' : Mem} {X : PX} {f : Nat}
/-- nothing but inside the state's block and the law's scratch is written; who is silent stays -/
def FrS (p s : Nat) (M M' : Mem) : Prop := (∀ b, (b < s ∨ s + 50 ≤ b) → b ≠ p + 27 → b ≠ p + 31 → M' b = M b) ∧ M' s 17 = M s 17
theorem FrS.rf : FrS p s M M := ⟨fun _ _ _ _ => rfl, rfl⟩
theorem FrS.tr {M1 M2 M3 : Mem} (h1 : FrS p s M1 M2) (h2 : FrS p s M2 M3) : FrS p s M1 M3 := ⟨fun b h a c => (h2.1 b h a c).trans (h1.1 b h a c), h2.2.trans h1.2⟩
theorem FrT.os (h : FrT p s M M') (hd : p + 34 ≤ s ∨ s + 50 ≤ p) : FrS p s M M' := ⟨fun b hb a c => h b (by omega) a c, by rw [h s (by omega) (by omega) (by omega)]⟩
theorem tick_ST (h : STv M s A) (hv : v = A 0 5 + 1) : STv (upM M s 0 (ii v)) s (upA A 0 5 v) := by
  obtain ⟨s1, ⟨tu, s2⟩, s3, ⟨nx, s4⟩, s5, s6, s7, s8, s9, s10, s11, s12, s13, s14, s15, s16, s17⟩ := h
  have k : ∀ b, b ≠ 0 → upM M s 0 (ii v) (s + b) = M (s + b) := fun b hb => by funext y; exact up_n (by omega)
  have a : ∀ f, f ≠ 0 → upA A 0 5 v f = A f := fun f hf => upA_f hf
  have a0 : ∀ y, y ≠ 5 → upA A 0 5 v 0 y = A 0 y := fun y hy => upA_d hy
  refine ⟨by rw [up_s, if_pos rfl, upA_e], ⟨tu, ?_⟩, ?_, ⟨nx, ?_⟩, ?_, ?_, ?_, ?_, ?_, ?_, ?_, ?_, ?_, ?_, ?_, ?_, ?_⟩
  · rw [a0 0 (by decide)]
    exact RVt_k s2 (k 1 (by decide)) (k 3 (by decide)) (k 5 (by decide)) (k 7 (by decide)) (k 9 (by decide)) (k 11 (by decide)) (k 13 (by decide)) (a 20 (by decide)) (a 21 (by decide)) (a 22 (by decide)) (a 23 (by decide)) (a 24 (by decide)) (a 25 (by decide))
  · exact QV_k s3 (k 16 (by decide)) (k 18 (by decide)) (k 20 (by decide)) (a 44 (by decide)) (a 60 (by decide)) (a 61 (by decide))
  · exact LGt_k s4 (k 47 (by decide)) (k 49 (by decide)) (a0 8 (by decide)) (a 70 (by decide))
  · exact RW_n (RW_k s5 (k 22 (by decide)) (a 41 (by decide))) (a0 3 (by decide))
  · exact RW_n (RW_k s6 (k 24 (by decide)) (a 42 (by decide))) (a0 3 (by decide))
  · exact RW_n (RW_k s7 (k 26 (by decide)) (a 43 (by decide))) (a0 3 (by decide))
  · exact RW_n (RW_k s8 (k 28 (by decide)) (a 45 (by decide))) (a0 3 (by decide))
  · exact RW_n (RW_k s9 (k 30 (by decide)) (a 90 (by decide))) (a0 3 (by decide))
  · exact RW_n (RW_k s10 (k 32 (by decide)) (a 46 (by decide))) (a0 3 (by decide))
  · exact RW_k s11 (k 34 (by decide)) (a 47 (by decide))
  · exact RW_k s12 (k 36 (by decide)) (a 48 (by decide))
  · exact RW_n (RW_k s13 (k 38 (by decide)) (a 49 (by decide))) (a0 3 (by decide))
  · exact RW_n (RW_k s14 (k 40 (by decide)) (a 35 (by decide))) (a0 1 (by decide))
  · exact RW_n (RW_k s15 (k 42 (by decide)) (a 32 (by decide))) (a0 1 (by decide))
  · exact RW_k s16 (k 44 (by decide)) (a 34 (by decide))
  · exact RW_n (RW_k s17 (k 46 (by decide)) (a 28 (by decide))) (a0 2 (by decide))
theorem tick_SP : SP A (upA A 0 5 v) := by
  refine ⟨?_, ?_, ?_, ?_, ?_, ?_, ?_, ?_, ?_, ?_, ?_, ?_, ?_, ?_, ?_, ?_, ?_⟩ <;> simp (disch := omega) only [upA_f, upA_d]
theorem tick_INV (hi : INV A T) : INV (upA A 0 5 (A 0 5 + 1)) (T + 1) := by
  obtain ⟨g, x, wx, sx, z, cx, px⟩ := hi
  unfold INV
  simp (disch := omega) only [upA_f, upA_d, upA_e]
  refine ⟨?_, fun y y1 y2 => ?_, wx, fun y y1 y2 => ?_, z, cx, px⟩
  · obtain ⟨g1, g2, g3, g4, g5, g6, g7, g8, g9, g10, g11, g12, g13⟩ := g
    exact ⟨g1, g2, g3, g4, g5, g6, g7, g8, g9, g10, by omega, by omega, g13⟩
  · obtain ⟨y3, y4, y5, y6, y7, y8, y9, y10, y11, y12⟩ := x y y1 y2
    exact ⟨y3, y4, y5, y6, y7, y8, y9, by omega, y11, y12⟩
  · obtain ⟨b1, b2, b3, b4, b5, b6, b7, b8, b9, b10, b11, b12, b13⟩ := sx y y1 y2
    refine ⟨b1, b2, b3, b4, b5, b6, b7, b8, b9, b10, b11, by omega, fun k k1 k2 => ?_⟩
    obtain ⟨d1, d2, d3, d4⟩ := b13 k k1 k2
    exact ⟨d1, d2, d3, by omega⟩
def dec1 (A : AT) (e : Int) : Int := if 0 < A 32 e - 1 then A 32 e - 1 else 0
def decA (A : AT) (e : Int) : AT := upA A 32 e (dec1 A e)
def decsA : Nat → Int → AT → AT
  | 0, _, A => A
  | n + 1, e, A => decsA n (e + 1) (decA A e)
theorem dec_SP : SP A (decA A e) := by
  unfold decA
  refine ⟨?_, ?_, ?_, ?_, ?_, ?_, ?_, ?_, ?_, ?_, ?_, ?_, ?_, ?_, ?_, ?_, ?_⟩ <;> simp (disch := omega) only [upA_f]
theorem decs_SP : ∀ (n : Nat) (e : Int) (A : AT), SP A (decsA n e A)
  | 0, _, _ => SP.rf
  | n + 1, e, A => dec_SP.tr (decs_SP n (e + 1) _)
theorem dec_INV (hi : INV A T) (h1 : 0 ≤ e) (h2 : e < A 0 1) : INV (decA A e) T := by
  obtain ⟨g, x, wx, sx, z, cx, px⟩ := hi
  unfold decA INV
  simp (disch := omega) only [upA_f, upA_s]
  refine ⟨g, fun y y1 y2 => ?_, wx, sx, z, cx, px⟩
  obtain ⟨y3, y4, y5, y6, y7, y8, y9, y10, y11, y12⟩ := x y y1 y2
  have h9 : 0 ≤ (if y = e then dec1 A e else A 32 y) ∧ (if y = e then dec1 A e else A 32 y) ≤ 999 := by
    by_cases hy : y = e
    · subst hy
      rw [if_pos rfl]
      unfold dec1
      split <;> omega
    · rw [if_neg hy]; omega
  exact ⟨y3, y4, y5, y6, h9.1, h9.2, y9, y10, y11, y12⟩
theorem S233l : ∀ (m : Nat) (e : Int) (A : AT) (M : Mem), e + m = A 0 1 → 0 ≤ e → WT M p s A T → ∃ M', ev true 233 0 39 [pR 6 s, pR 5 p, pI (ii e)] [] M X = some (.inl none, M', X) ∧ WT M' p s (decsA m e A) T ∧ FrI s M M' := by
  intro m
  induction m with
  | zero =>
    intro e A M h1 h2 h
    have e1 := h.1.1.2.1
    have g := h.1.2.2.2.2.1.1
    exact ⟨M, by rw [q233_39, e1, ltF (by omega)], h, FrI.rf⟩
  | succ m ih =>
    intro e A M h1 h2 h
    obtain ⟨hws, hld, hlw⟩ := h
    have hwz := hws
    obtain ⟨hp, hpl, hs, hL, hi, hT, hd⟩ := hws
    have g := hi.1
    have l41 : rl (s + 41) = 6 := hL.2.2.2.2.2.2.2.2.2.2.2.2.2.2.1
    have r32 := hs.2.2.2.2.2.2.2.2.2.2.2.2.2.2.1 e h2 (by omega)
    obtain ⟨x1, x2, x3, x4, x5, x6, x7⟩ := hi.2.1 e h2 (by omega)
    have hs2 := ST_32 (v := dec1 A e) hs h2
    have hw2 : WS _ p s (decA A e) T := WS.of hwz hs2 (fun b hb => by funext y; exact sc_n (by omega)) dec_SP (dec_INV hi h2 (by omega))
    have hh : HLD (decA A e) := hld.mv (by unfold decA; rw [upA_f (by decide)]) (by unfold decA; rw [upA_f (by decide)]) (by unfold decA; rw [upA_f (by decide)]) (by unfold decA; rw [upA_f (by decide)])
    obtain ⟨M', t1, t2, t3⟩ := ih (e + 1) (decA A e) _ (by rw [dec_SP.2.1]; omega) (by omega) ⟨hw2, hh, hlw.sp dec_SP⟩
    refine ⟨M', ?_, t2, (fr_sc (by omega) (by omega)).tr t3⟩
    have e9 : (if 0 < A 32 e - 1 then ii (A 32 e - 1) else ii 0) = ii (dec1 A e) := by unfold dec1; split <;> rfl
    rw [q233_39, hp.2.1, ltT (by omega), S12 h2 (by omega), kb1, q233_61, r32, i_1, ii_sub, i_0, ilt (by omega), e9, q233_66, S11 h2 (by omega), kb0, q233_69, i_1, ii_add, t1]
noncomputable def stepA (off : Int) (A : AT) : AT := decsA (A 0 1).toNat 0 (upA (allTurnsA (allSidesA (allExitsA (advA (A 0 0) (allComeA off A))))) 0 5 ((allTurnsA (allSidesA (allExitsA (advA (A 0 0) (allComeA off A))))) 0 5 + 1))
theorem turs_SP : ∀ (m : Nat) (A : AT), SP A (tursA m A)
  | 0, _ => SP.rf
  | m + 1, A => by
    unfold tursA
    split
    · exact SP.rf
    · exact turn_SP.tr (turs_SP m _)
theorem step_SP : SP A (stepA off A) := by
  unfold stepA allTurnsA allSidesA allExitsA allComeA
  exact (((((comes_SP _ _ _).tr adv_SP).tr (exits_SP _ _ _)).tr (sides_SP _ _ _)).tr (turs_SP _ _)).tr (tick_SP.tr (decs_SP _ _ _))
theorem S233 (h : WT M p s A T) (hT : T + 1 < 1000000) (ho : M s 17 = ii off) (ho2 : -1 ≤ off ∧ off < 100) : ∃ M', ev true 233 0 0 [pR 6 s, pR 5 p, p0] [] M X = some (.inl none, M', X) ∧ WT M' p s (stepA off A) (T + 1) ∧ FrS p s M M' := by
  obtain ⟨hws, hld, hlw⟩ := h
  have hd := hws.2.2.2.2.2.2
  have hL := hws.2.2.2.1
  have g := hws.2.2.2.2.1.1
  -- all that come
  obtain ⟨M1, a1, a2, a3⟩ := S158 (X := X) hws ho ho2
  have sp1 : SP A (allComeA off A) := comes_SP _ _ _
  have hl1 : HLD (allComeA off A) := comes_HLD _ _ _ hld
  have hlw1 := hlw.sp sp1
  -- all goes on
  have N1 : allComeA off A 0 0 = A 0 0 := sp1.1
  have hi1 := a2.2.2.2.2.1
  have g1 := hi1.1
  obtain ⟨tu, q2⟩ := a2.2.2.1.2.1
  have hp1 := hi1.2.2.2.2.2.2 (allComeA off A 0 0 - 1) (by omega) (by omega)
  obtain ⟨M2, tu2, b1, b2, b3⟩ := S84 (X := X) q2 hL.1 (by omega) (by omega)
  have sp2 : SP (allComeA off A) (advA (allComeA off A 0 0) (allComeA off A)) := adv_SP
  have hs2 : STv M2 s (advA (allComeA off A 0 0) (allComeA off A)) := ST_ring a2.2.2.1 ⟨tu2, b2⟩ (fun b hb => b3 b (by omega) (by omega)) (fun f hf => advA_f hf)
  have hw2 : WS M2 p s (advA (allComeA off A 0 0) (allComeA off A)) T := WS.of a2 hs2 (fun b hb => b3 b (by omega) (by omega)) sp2 (adv_INV hi1)
  have f2 : FrI s M1 M2 := fun b hb => b3 b (by omega) (by omega)
  have hl2 := adv_HLD hl1 hi1
  rw [N1] at hw2 hl2 sp2
  -- exits
  obtain ⟨M3, c1, c2, c3⟩ := S211 (X := X) hw2
  have hl3 : HLD (allExitsA (advA (A 0 0) (allComeA off A))) := exits_HLD _ _ _ hl2
  have sp3 : SP (advA (A 0 0) (allComeA off A)) (allExitsA (advA (A 0 0) (allComeA off A))) := exits_SP _ _ _
  -- sides
  obtain ⟨M4, d1, d2, d3⟩ := S159 (X := X) c2
  have g3 := c2.2.2.2.2.1.1
  have hl4 : HLD (allSidesA (allExitsA (advA (A 0 0) (allComeA off A)))) := sides_HLD _ _ _ (by omega) (by omega) c2.2.2.2.2.1 hl3
  have sp4 : SP (allExitsA (advA (A 0 0) (allComeA off A))) (allSidesA (allExitsA (advA (A 0 0) (allComeA off A)))) := sides_SP _ _ _
  have hlw4 := ((hlw1.sp sp2).sp sp3).sp sp4
  -- turns
  obtain ⟨M5, e1, e2, e3⟩ := S212 (X := X) (⟨d2, hl4, hlw4⟩ : WT M4 p s (allSidesA (allExitsA (advA (A 0 0) (allComeA off A)))) T)
  have sp5 : SP (allSidesA (allExitsA (advA (A 0 0) (allComeA off A)))) (allTurnsA (allSidesA (allExitsA (advA (A 0 0) (allComeA off A))))) := turs_SP _ _
  obtain ⟨B, hB⟩ : ∃ B, B = allTurnsA (allSidesA (allExitsA (advA (A 0 0) (allComeA off A)))) := ⟨_, rfl⟩
  have spB : SP A B := by rw [hB]; exact (((sp1.tr sp2).tr sp3).tr sp4).tr sp5
  rw [← hB] at e2
  -- tick
  have hs6 := tick_ST (v := B 0 5 + 1) e2.1.2.2.1 rfl
  have hw6 : WT (upM M5 s 0 (ii (B 0 5 + 1))) p s (upA B 0 5 (B 0 5 + 1)) (T + 1) := by
    obtain ⟨w1, w2, w3, w4, w5, w6, w7⟩ := e2.1
    exact ⟨⟨PLv_k w1 (fun b b1 b2 _ _ => by funext y; exact up_n (by omega)) tick_SP, w2, hs6, w4, tick_INV w5, hT, w7⟩, e2.2.1.mv (upA_d (by decide)) (upA_d (by decide)) (upA_f (by decide)) (upA_f (by decide)), e2.2.2.sp tick_SP⟩
  have gB := hw6.1.2.2.2.2.1.1
  have n1 : upA B 0 5 (B 0 5 + 1) 0 1 = A 0 1 := by rw [upA_d (by decide)]; exact spB.2.1
  obtain ⟨M7, h1, h2, h3⟩ := S233l (X := X) (A 0 1).toNat 0 (upA B 0 5 (B 0 5 + 1)) (upM M5 s 0 (ii (B 0 5 + 1))) (by rw [n1]; omega) (by omega) hw6
  refine ⟨M7, ?_, ?_, ?_⟩
  · rw [q233_0, a1, kb0, q233_5, b1, kb0, q233_12, c1, kb0, q233_17, d1, kb0, q233_22, e1, kb0, q233_27, e2.1.2.2.1.1, i_1, ii_add, i_0, h1]
  · unfold stepA
    rw [← hB]
    exact h2
  · have z1 : FrS p s M M5 := (((((a3.tr f2).tr c3).tr d3).ot).tr e3).os hd
    have z2 : FrS p s M5 (upM M5 s 0 (ii (B 0 5 + 1))) := ⟨fun b hb _ _ => by funext y; exact up_n (by omega), up_d (by decide)⟩
    exact (z1.tr z2).tr (h3.ot.os hd)
noncomputable def runA (off : Int) : Nat → AT → AT
  | 0, A => A
  | n + 1, A => runA off n (stepA off A)
theorem run_SP : ∀ (n : Nat) (A : AT), SP A (runA off n A)
  | 0, _ => SP.rf
  | n + 1, A => step_SP.tr (run_SP n _)
theorem S251l {n : Int} (hn : n < 1000000) (ho2 : -1 ≤ off ∧ off < 100) : ∀ (m : Nat) (i : Int) (A : AT) (M : Mem) (T : Int), i + m = n → 0 ≤ i → T + m < 1000000 → M s 17 = ii off → WT M p s A T → ∃ M', ev true 251 0 2 [pR 6 s, pR 5 p, pI (ii n), pI (ii i)] [] M X = some (.inl none, M', X) ∧ WT M' p s (runA off m A) (T + m) ∧ FrS p s M M' := by
  intro m
  induction m with
  | zero =>
    intro i A M T h1 h2 h3 ho h
    exact ⟨M, by rw [q251_2, ltF (by omega)], by rw [show T + ((0 : Nat) : Int) = T by omega]; exact h, FrS.rf⟩
  | succ m ih =>
    intro i A M T h1 h2 h3 ho h
    obtain ⟨M1, a1, a2, a3⟩ := S233 (X := X) h (by omega) ho ho2
    obtain ⟨M2, b1, b2, b3⟩ := ih (i + 1) (stepA off A) M1 (T + 1) (by omega) (by omega) (by omega) (by rw [a3.2]; exact ho) a2
    refine ⟨M2, by rw [q251_2, ltT (by omega), a1, kb0, q251_12, i_1, ii_add, b1], ?_, a3.tr b3⟩
    rw [show T + ((m + 1 : Nat) : Int) = T + 1 + m by omega]
    exact b2
theorem S251 {n : Nat} (h : WT M p s A T) (hT : T + n < 1000000) (hn : n < 1000000) (ho : M s 17 = ii off) (ho2 : -1 ≤ off ∧ off < 100) : ∃ M', ev true 251 0 0 [pR 6 s, pR 5 p, pI (ii n), p0] [] M X = some (.inl none, M', X) ∧ WT M' p s (runA off n A) (T + n) ∧ FrS p s M M' := by
  obtain ⟨M', a1, a2, a3⟩ := S251l (X := X) (n := n) (by omega) ho2 n 0 A M T (by omega) (by omega) hT ho h
  exact ⟨M', by rw [q251_0, i_0, a1], a2, a3⟩
end STP
