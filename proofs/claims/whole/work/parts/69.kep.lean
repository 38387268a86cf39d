/-! what a tick keeps; its sums -/
section KEP
set_option maxRecDepth 100000
variable {u s p v l g n : Nat} {j k q e w c T T' tu tv nx off sh i z y N t : Int} {A B A' : AT} {M M' M0 : Mem} {X : PX} {f : Nat} {L : Bool}
theorem come_f (h0 : f ≠ 0) (h1 : f ≠ 44) (h2 : f ≠ 48) (h3 : f ≠ 60) (h4 : f ≠ 61) : comeA off A c f = A f := by
  unfold comeA
  split
  · rfl
  · split
    · rw [upA_f h2, upA_f h0]
    · exact joinA_f h1 h3 h4
theorem comes_f (h0 : f ≠ 0) (h1 : f ≠ 44) (h2 : f ≠ 48) (h3 : f ≠ 60) (h4 : f ≠ 61) : ∀ (n : Nat) (c : Int) (A : AT), comesA off n c A f = A f
  | 0, _, _ => rfl
  | n + 1, c, A => (comes_f h0 h1 h2 h3 h4 n (c + 1) _).trans (come_f h0 h1 h2 h3 h4)
theorem exit_f (h0 : f ≠ 0) (h1 : f ≠ 20) (h2 : f ≠ 21) (h3 : f ≠ 22) (h4 : f ≠ 28) (h5 : f ≠ 33) (h6 : f ≠ 34) (h7 : f ≠ 35) (h8 : f ≠ 47) (h9 : f ≠ 70) : exitA A e f = A f := by
  rcases Classical.em (exitB A e) with h | h
  · rw [exitA_t h]; exact takA_f h0 h1 h2 h3 h4 h5 h6 h7 h8 h9
  · rw [exitA_n h]
theorem exits_f (h0 : f ≠ 0) (h1 : f ≠ 20) (h2 : f ≠ 21) (h3 : f ≠ 22) (h4 : f ≠ 28) (h5 : f ≠ 33) (h6 : f ≠ 34) (h7 : f ≠ 35) (h8 : f ≠ 47) (h9 : f ≠ 70) : ∀ (n : Nat) (e : Int) (A : AT), exitsA n e A f = A f
  | 0, _, _ => rfl
  | n + 1, e, A => (exits_f h0 h1 h2 h3 h4 h5 h6 h7 h8 h9 n (e + 1) _).trans (exit_f h0 h1 h2 h3 h4 h5 h6 h7 h8 h9)
theorem gon_f (h1 : f < 20 ∨ 24 < f) (h2 : f ≠ 44) (h3 : f ≠ 46) (h4 : f ≠ 49) (h5 : f ≠ 60) (h6 : f ≠ 61) : gonA A j q f = A f := by
  unfold gonA
  split
  · exact goA_f h1 h2 h3 h4 h5 h6
  · rfl
theorem side_f (h1 : f < 20 ∨ 25 < f) (h2 : f ≠ 44) (h3 : f ≠ 46) (h4 : f ≠ 49) (h5 : f ≠ 60) (h6 : f ≠ 61) (h7 : f ≠ 90) : sideA A j f = A f := by
  unfold sideA
  split
  · exact (gon_f (by omega) h2 h3 h4 h5 h6).trans (relA_f (by omega) h7)
  · split
    · exact gon_f (by omega) h2 h3 h4 h5 h6
    · rfl
theorem sides_f (h1 : f < 20 ∨ 25 < f) (h2 : f ≠ 44) (h3 : f ≠ 46) (h4 : f ≠ 49) (h5 : f ≠ 60) (h6 : f ≠ 61) (h7 : f ≠ 90) : ∀ (n : Nat) (j : Int) (A : AT), sidesA n j A f = A f
  | 0, _, _ => rfl
  | n + 1, j, A => (sides_f h1 h2 h3 h4 h5 h6 h7 n (j + 1) _).trans (side_f h1 h2 h3 h4 h5 h6 h7)
theorem turn_f (h1 : f ≠ 25) (h2 : f ≠ 45) (h3 : f ≠ 90) : turnA A f = A f := by
  unfold turnA
  rw [payA_f h2, holdA_f h1 h3]
theorem turs_f (h1 : f ≠ 25) (h2 : f ≠ 45) (h3 : f ≠ 90) : ∀ (m : Nat) (A : AT), tursA m A f = A f
  | 0, _ => rfl
  | m + 1, A => by
    unfold tursA
    split
    · rfl
    · exact (turs_f h1 h2 h3 m _).trans (turn_f h1 h2 h3)
theorem decs_f (h1 : f ≠ 32) : ∀ (n : Nat) (e : Int) (A : AT), decsA n e A f = A f
  | 0, _, _ => rfl
  | n + 1, e, A => (decs_f h1 n (e + 1) _).trans (by unfold decA; exact upA_f h1)
/-- the state behind a tick's turns -/
noncomputable def midA (off : Int) (A : AT) : AT := allTurnsA (allSidesA (allExitsA (advA (A 0 0) (allComeA off A))))
theorem step_mid : stepA off A = decsA (A 0 1).toNat 0 (upA (midA off A) 0 5 (midA off A 0 5 + 1)) := rfl
theorem step_up (h : f ≠ 32) (h0 : f ≠ 0) : stepA off A f = midA off A f := by
  rw [step_mid, decs_f h, upA_f h0]
theorem step_0 (h : k ≠ 5) : stepA off A 0 k = midA off A 0 k := by
  rw [step_mid, decs_f (by decide), upA_d h]
/-- rooms, reaches, shares -/
theorem step_k (h : f = 41 ∨ f = 42 ∨ f = 43) : stepA off A f = A f := by
  rw [step_up (by omega) (by omega)]
  unfold midA allTurnsA allSidesA allExitsA allComeA
  rw [turs_f (by omega) (by omega) (by omega), sides_f (by omega) (by omega) (by omega) (by omega) (by omega) (by omega) (by omega), exits_f (by omega) (by omega) (by omega) (by omega) (by omega) (by omega) (by omega) (by omega) (by omega) (by omega), advA_f (by omega), comes_f (by omega) (by omega) (by omega) (by omega) (by omega)]
theorem turn_45 (h : A 0 3 ≤ j) : turnA A 45 j = A 45 j := by
  unfold turnA payA
  have e0 : holdA A (gapA A (scanA A (A 0 3).toNat).1) (scanA A (A 0 3).toNat).1 0 3 = A 0 3 := by rw [holdA_f (by decide) (by decide)]
  rw [e0, if_neg (by omega), holdA_f (by decide) (by decide)]
theorem turs_45 : ∀ (m : Nat) (A : AT), A 0 3 ≤ j → tursA m A 45 j = A 45 j
  | 0, _, _ => rfl
  | m + 1, A, h => by
    unfold tursA
    split
    · rfl
    · rw [turs_45 m _ (by rw [turn_SP.2.2.2.1]; exact h), turn_45 h]
theorem mid_45 (h : A 0 3 ≤ j) : midA off A 45 j = A 45 j := by
  have e3 : allSidesA (allExitsA (advA (A 0 0) (allComeA off A))) 0 3 = A 0 3 := ((((comes_SP _ _ _).tr adv_SP).tr (exits_SP _ _ _)).tr (sides_SP _ _ _)).2.2.2.1
  unfold midA allTurnsA
  rw [turs_45 _ _ (by rw [e3]; exact h)]
  unfold allSidesA allExitsA allComeA
  rw [sides_f (by omega) (by omega) (by omega) (by omega) (by omega) (by omega) (by omega), exits_f (by omega) (by omega) (by omega) (by omega) (by omega) (by omega) (by omega) (by omega) (by omega) (by omega), advA_f (by omega), comes_f (by omega) (by omega) (by omega) (by omega) (by omega)]
theorem step_45 (h : A 0 3 ≤ j) : stepA off A 45 j = A 45 j := by
  rw [step_up (by omega) (by omega)]
  exact mid_45 h
/-- invariants of the stages, without memory -/
theorem comes_INV : ∀ (n : Nat) (c : Int) (A : AT), c + n = A 0 4 → 0 ≤ c → INV A T → INV (comesA off n c A) T
  | 0, _, _, _, _, h => h
  | n + 1, c, A, h1, h2, h => comes_INV n (c + 1) _ (by rw [come_SP.2.2.2.2.1]; omega) (by omega) (come_INV h h2 (by omega))
theorem exits_INV : ∀ (n : Nat) (e : Int) (A : AT), e + n = A 0 1 → 0 ≤ e → INV A T → INV (exitsA n e A) T
  | 0, _, _, _, _, h => h
  | n + 1, e, A, h1, h2, h => exits_INV n (e + 1) _ (by rw [exit_SP.2.1]; omega) (by omega) (exit_INV h h2 (by omega))
theorem sides_INV : ∀ (n : Nat) (j : Int) (A : AT), j + n = A 0 3 → 0 ≤ j → INV A T → INV (sidesA n j A) T
  | 0, _, _, _, _, h => h
  | n + 1, j, A, h1, h2, h => sides_INV n (j + 1) _ (by rw [side_SP.2.2.2.1]; omega) (by omega) (side_INV h h2 (by omega))
theorem turs_INV : ∀ (m : Nat) (A : AT), INV A T → HLD A → INV (tursA m A) T ∧ HLD (tursA m A)
  | 0, _, h, hh => ⟨h, hh⟩
  | m + 1, A, h, hh => by
    unfold tursA
    split
    · exact ⟨h, hh⟩
    · next hc => exact turs_INV m _ (turn_INV h hh hc).1 (turn_INV h hh hc).2
theorem decs_INV : ∀ (n : Nat) (e : Int) (A : AT), e + n = A 0 1 → 0 ≤ e → INV A T → INV (decsA n e A) T
  | 0, _, _, _, _, h => h
  | n + 1, e, A, h1, h2, h => decs_INV n (e + 1) _ (by rw [dec_SP.2.1]; omega) (by omega) (dec_INV h h2 (by omega))
/-- the stages of a tick, with what is known behind each -/
theorem stages (hi : INV A T) (hh : HLD A) : (INV (allComeA off A) T ∧ HLD (allComeA off A)) ∧ (INV (advA (A 0 0) (allComeA off A)) T ∧ HLD (advA (A 0 0) (allComeA off A))) ∧ (INV (allExitsA (advA (A 0 0) (allComeA off A))) T ∧ HLD (allExitsA (advA (A 0 0) (allComeA off A)))) ∧ (INV (allSidesA (allExitsA (advA (A 0 0) (allComeA off A)))) T ∧ HLD (allSidesA (allExitsA (advA (A 0 0) (allComeA off A))))) ∧ INV (midA off A) T ∧ HLD (midA off A) := by
  have g := hi.1
  have sp1 : SP A (allComeA off A) := comes_SP _ _ _
  have i1 : INV (allComeA off A) T := comes_INV _ _ _ (by omega) (by omega) hi
  have l1 : HLD (allComeA off A) := comes_HLD _ _ _ hh
  have i2 : INV (advA (A 0 0) (allComeA off A)) T := by have := adv_INV i1; rwa [sp1.1] at this
  have l2 : HLD (advA (A 0 0) (allComeA off A)) := by have := adv_HLD l1 i1; rwa [sp1.1] at this
  have g2 := i2.1
  have i3 : INV (allExitsA (advA (A 0 0) (allComeA off A))) T := exits_INV _ _ _ (by omega) (by omega) i2
  have l3 : HLD (allExitsA (advA (A 0 0) (allComeA off A))) := exits_HLD _ _ _ l2
  have g3 := i3.1
  have i4 : INV (allSidesA (allExitsA (advA (A 0 0) (allComeA off A)))) T := sides_INV _ _ _ (by omega) (by omega) i3
  have l4 : HLD (allSidesA (allExitsA (advA (A 0 0) (allComeA off A)))) := sides_HLD _ _ _ (by omega) (by omega) i3 l3
  exact ⟨⟨i1, l1⟩, ⟨i2, l2⟩, ⟨i3, l3⟩, ⟨i4, l4⟩, turs_INV _ _ i4 l4⟩
theorem mid_SP : SP A (midA off A) := by
  unfold midA allTurnsA allSidesA allExitsA allComeA
  exact (((((comes_SP _ _ _).tr adv_SP).tr (exits_SP _ _ _)).tr (sides_SP _ _ _)).tr (turs_SP _ _))
theorem step_INV (hi : INV A T) (hh : HLD A) : INV (stepA off A) (T + 1) ∧ HLD (stepA off A) := by
  obtain ⟨-, -, -, -, i5, l5⟩ := stages (off := off) hi hh
  have g5 := i5.1
  have e1 : midA off A 0 1 = A 0 1 := mid_SP.2.1
  have it := tick_INV i5
  refine ⟨?_, l5.mv ?_ ?_ ?_ ?_⟩
  · rw [step_mid]
    exact decs_INV _ _ _ (by rw [upA_d (by decide), e1]; omega) (by omega) it
  · exact step_0 (by decide)
  · exact step_0 (by decide)
  · exact step_up (by decide) (by decide)
  · exact step_up (by decide) (by decide)
theorem run_INV : ∀ (n : Nat) (A : AT) (T : Int), INV A T → HLD A → INV (runA off n A) (T + n) ∧ HLD (runA off n A)
  | 0, A, T, hi, hh => ⟨by rw [show T + ((0 : Nat) : Int) = T by omega]; exact hi, hh⟩
  | n + 1, A, T, hi, hh => by
    have := run_INV n _ _ (step_INV (off := off) hi hh).1 (step_INV (off := off) hi hh).2
    rw [show T + ((n + 1 : Nat) : Int) = T + 1 + n by omega]
    exact this
theorem run_add : ∀ (m n : Nat) (A : AT), runA off (m + n) A = runA off n (runA off m A)
  | 0, n, A => by rw [Nat.zero_add]; rfl
  | m + 1, n, A => by
    rw [show m + 1 + n = (m + n) + 1 by omega]
    exact run_add m n (stepA off A)
theorem run_s (n : Nat) (A : AT) : runA off (n + 1) A = stepA off (runA off n A) := run_add n 1 A
theorem run_k (h : f = 41 ∨ f = 42 ∨ f = 43) : ∀ (n : Nat) (A : AT), runA off n A f = A f
  | 0, _ => rfl
  | n + 1, A => (run_k h n (stepA off A)).trans (step_k h)
theorem run_45 : ∀ (n : Nat) (A : AT), A 0 3 ≤ j → runA off n A 45 j = A 45 j
  | 0, _, _ => rfl
  | n + 1, A, h => (run_45 n (stepA off A) (by rw [step_SP.2.2.2.1]; exact h)).trans (step_45 h)
theorem INV_le (hi : INV A T) (h : T ≤ T') : INV A T' := by
  obtain ⟨⟨g1, g2, g3, g4, g5, g6, g7, g8, g9, g10, g11, g12, g13⟩, r⟩ := hi
  exact ⟨⟨g1, g2, g3, g4, g5, g6, g7, g8, g9, g10, g11, by omega, g13⟩, r⟩
/-- sums -/
def s6 (f : Int → Int) : Int := f 0 + f 1 + f 2 + f 3 + f 4 + f 5
theorem s6_up {F G : Int → Int} (h1 : 0 ≤ j) (h2 : j < 6) (h : ∀ y, G y = if y = j then F j + 1 else F y) : s6 G = s6 F + 1 := by
  unfold s6
  rw [h 0, h 1, h 2, h 3, h 4, h 5]
  rcases (by omega : j = 0 ∨ j = 1 ∨ j = 2 ∨ j = 3 ∨ j = 4 ∨ j = 5) with rfl | rfl | rfl | rfl | rfl | rfl <;> simp <;> omega
def SMI (A : AT) : Prop := A 0 6 = s6 (A 34) ∧ A 0 6 = s6 (A 47) ∧ A 0 7 = s6 (A 48)
theorem SMI.mv (h : SMI A) (h6 : A' 0 6 = A 0 6) (h7 : A' 0 7 = A 0 7) (h34 : A' 34 = A 34) (h47 : A' 47 = A 47) (h48 : A' 48 = A 48) : SMI A' := by
  unfold SMI
  rw [h6, h7, h34, h47, h48]
  exact h
theorem come_SMI (hi : INV A T) (h1 : 0 ≤ c) (h2 : c < A 0 4) (h : SMI A) : SMI (comeA off A c) := by
  obtain ⟨b1, b2, b3, b4, b5, b6, b7, b8⟩ := hi.2.2.2.2.2.1 c h1 h2
  have g := hi.1
  unfold comeA
  split
  · exact h
  · split
    · refine ⟨?_, ?_, ?_⟩
      · rw [upA_n (by decide), upA_d (by decide), upA_f (by decide), upA_f (by decide)]; exact h.1
      · rw [upA_n (by decide), upA_d (by decide), upA_f (by decide), upA_f (by decide)]; exact h.2.1
      · rw [upA_n (by decide), upA_e, s6_up (F := A 48) b1 (by omega) (fun y => by rw [upA_s, upA_n (by decide)]), h.2.2]
    · exact h.mv (by rw [joinA_f (by decide) (by decide) (by decide)]) (by rw [joinA_f (by decide) (by decide) (by decide)]) (joinA_f (by decide) (by decide) (by decide)) (joinA_f (by decide) (by decide) (by decide)) (joinA_f (by decide) (by decide) (by decide))
theorem comes_SMI : ∀ (n : Nat) (c : Int) (A : AT), c + n = A 0 4 → 0 ≤ c → INV A T → SMI A → SMI (comesA off n c A)
  | 0, _, _, _, _, _, h => h
  | n + 1, c, A, h1, h2, hi, h => comes_SMI n (c + 1) _ (by rw [come_SP.2.2.2.2.1]; omega) (by omega) (come_INV hi h2 (by omega)) (come_SMI hi h2 (by omega) h)
theorem takA_34 (y : Int) : takA A e q 34 y = if y = e then A 34 e + 1 else A 34 y := by
  unfold takA tak1
  simp (disch := omega) only [upA_n, upA_s, logA_f]
theorem takA_47 (y : Int) : takA A e q 47 y = if y = A 21 q then A 47 (A 21 q) + 1 else A 47 y := by
  unfold takA tak1
  simp (disch := omega) only [upA_n, upA_s, logA_f]
theorem takA_06 : takA A e q 0 6 = A 0 6 + 1 := by
  unfold takA
  rw [upA_n (by decide), upA_e]
theorem exit_SMI (hi : INV A T) (h1 : 0 ≤ e) (h2 : e < A 0 1) (h : SMI A) : SMI (exitA A e) := by
  have g := hi.1
  rcases Classical.em (exitB A e) with hb | hb
  · rw [exitA_t hb]
    obtain ⟨x1, x2, -⟩ := hi.2.1 e h1 h2
    obtain ⟨y1, y2, y3, y4, y5, y6, y7, y8⟩ := hi.2.2.2.2.2.2 (A 30 e) x1 x2
    have y9 := y7 hb.2.2.1
    refine ⟨?_, ?_, ?_⟩
    · rw [takA_06, s6_up (F := A 34) h1 (by omega) takA_34, h.1]
    · rw [takA_06, s6_up (F := A 47) (j := A 21 (A 30 e)) (by omega) (by omega) takA_47, h.2.1]
    · rw [takA_0 (by decide) (by decide), takA_f (by decide) (by decide) (by decide) (by decide) (by decide) (by decide) (by decide) (by decide) (by decide) (by decide), h.2.2]
  · rw [exitA_n hb]; exact h
theorem exits_SMI : ∀ (n : Nat) (e : Int) (A : AT), e + n = A 0 1 → 0 ≤ e → INV A T → SMI A → SMI (exitsA n e A)
  | 0, _, _, _, _, _, h => h
  | n + 1, e, A, h1, h2, hi, h => exits_SMI n (e + 1) _ (by rw [exit_SP.2.1]; omega) (by omega) (exit_INV hi h2 (by omega)) (exit_SMI hi h2 (by omega) h)
theorem step_SMI (hi : INV A T) (hh : HLD A) (h : SMI A) : SMI (stepA off A) := by
  obtain ⟨⟨i1, -⟩, ⟨i2, -⟩, -⟩ := stages (off := off) hi hh
  have g := hi.1
  have g2 := i2.1
  have m1 : SMI (allComeA off A) := comes_SMI _ _ _ (by omega) (by omega) hi h
  have m2 : SMI (advA (A 0 0) (allComeA off A)) := m1.mv (by rw [advA_f (by omega)]) (by rw [advA_f (by omega)]) (advA_f (by omega)) (advA_f (by omega)) (advA_f (by omega))
  have m3 : SMI (allExitsA (advA (A 0 0) (allComeA off A))) := exits_SMI _ _ _ (by omega) (by omega) i2 m2
  have k : ∀ f, f = 0 ∨ f = 34 ∨ f = 47 ∨ f = 48 → midA off A f = allExitsA (advA (A 0 0) (allComeA off A)) f := fun f hf => by
    unfold midA allTurnsA allSidesA
    rw [turs_f (by omega) (by omega) (by omega), sides_f (by omega) (by omega) (by omega) (by omega) (by omega) (by omega) (by omega)]
  exact m3.mv (by rw [step_0 (by decide), k 0 (by omega)]) (by rw [step_0 (by decide), k 0 (by omega)]) (by rw [step_up (by decide) (by decide), k _ (by omega)]) (by rw [step_up (by decide) (by decide), k _ (by omega)]) (by rw [step_up (by decide) (by decide), k _ (by omega)])
theorem run_SMI : ∀ (n : Nat) (A : AT) (T : Int), INV A T → HLD A → SMI A → SMI (runA off n A)
  | 0, _, _, _, _, h => h
  | n + 1, A, T, hi, hh, h => run_SMI n _ _ (step_INV (off := off) hi hh).1 (step_INV (off := off) hi hh).2 (step_SMI hi hh h)
/-- how many went -/
def GON (A : AT) : Prop := ∀ j, 0 ≤ j → j < A 0 3 → 0 ≤ A 46 j ∧ A 46 j ≤ A 0 5
theorem gon_46 (y : Int) : gonA A j q 46 y = if 0 < A 44 j ∧ y = j then A 46 j + 1 else A 46 y := by
  unfold gonA
  by_cases h : 0 < A 44 j
  · rw [if_pos h, goA_46]
    by_cases hy : y = j
    · rw [if_pos hy, if_pos ⟨h, hy⟩]
    · rw [if_neg hy, if_neg (fun z => hy z.2)]
  · rw [if_neg h, if_neg (fun z => h z.1)]
theorem side_46 (y : Int) : A 46 y ≤ sideA A j 46 y ∧ sideA A j 46 y ≤ A 46 y + 1 ∧ (y ≠ j → sideA A j 46 y = A 46 y) := by
  have hr : relA A j (A 40 j) 46 = A 46 := relA_f (by decide) (by decide)
  have r44 : relA A j (A 40 j) 44 = A 44 := relA_f (by decide) (by decide)
  unfold sideA
  split
  · rw [gon_46, hr, r44]
    split
    · next h => exact ⟨by rw [h.2]; omega, by rw [h.2]; omega, fun z => absurd h.2 z⟩
    · exact ⟨by omega, by omega, fun _ => rfl⟩
  · split
    · rw [gon_46]
      split
      · next h => exact ⟨by rw [h.2]; omega, by rw [h.2]; omega, fun z => absurd h.2 z⟩
      · exact ⟨by omega, by omega, fun _ => rfl⟩
    · exact ⟨by omega, by omega, fun _ => rfl⟩
theorem sides_46 (y : Int) : ∀ (n : Nat) (j : Int) (A : AT), A 46 y ≤ sidesA n j A 46 y ∧ sidesA n j A 46 y ≤ A 46 y + 1 ∧ (y < j → sidesA n j A 46 y = A 46 y)
  | 0, _, A => ⟨Int.le_refl _, by show A 46 y ≤ A 46 y + 1; omega, fun _ => rfl⟩
  | n + 1, j, A => by
    obtain ⟨a1, a2, a3⟩ := sides_46 y n (j + 1) (sideA A j)
    obtain ⟨b1, b2, b3⟩ := side_46 (A := A) (j := j) y
    show A 46 y ≤ sidesA n (j + 1) (sideA A j) 46 y ∧ sidesA n (j + 1) (sideA A j) 46 y ≤ A 46 y + 1 ∧ (y < j → sidesA n (j + 1) (sideA A j) 46 y = A 46 y)
    by_cases h : y = j
    · have := a3 (by omega)
      exact ⟨by omega, by omega, fun z => by omega⟩
    · have := b3 h
      exact ⟨by omega, by omega, fun z => by rw [a3 (by omega), b3 h]⟩
theorem mid_05 : midA off A 0 5 = A 0 5 := by
  unfold midA allTurnsA allSidesA allExitsA allComeA
  have ex : ∀ (n : Nat) (e : Int) (A : AT), exitsA n e A 0 5 = A 0 5 := by
    intro n
    induction n with
    | zero => intro e A; rfl
    | succ n ih =>
      intro e A
      refine (ih (e + 1) _).trans ?_
      rcases Classical.em (exitB A e) with h | h
      · rw [exitA_t h]; exact takA_0 (by decide) (by decide)
      · rw [exitA_n h]
  rw [turs_f (by omega) (by omega) (by omega), sides_f (by omega) (by omega) (by omega) (by omega) (by omega) (by omega) (by omega), ex, advA_f (by omega), comes_tick]
theorem step_05 : stepA off A 0 5 = A 0 5 + 1 := by
  rw [step_mid, decs_f (by decide), upA_e, mid_05]
theorem run_05 : ∀ (n : Nat) (A : AT), runA off n A 0 5 = A 0 5 + n
  | 0, A => by show A 0 5 = A 0 5 + ((0 : Nat) : Int); omega
  | n + 1, A => by
    rw [show runA off (n + 1) A = runA off n (stepA off A) from rfl, run_05 n, step_05]
    omega
theorem step_46 (y : Int) : A 46 y ≤ stepA off A 46 y ∧ stepA off A 46 y ≤ A 46 y + 1 := by
  have h := sides_46 y (allExitsA (advA (A 0 0) (allComeA off A)) 0 3).toNat 0 (allExitsA (advA (A 0 0) (allComeA off A)))
  have e : allExitsA (advA (A 0 0) (allComeA off A)) 46 = A 46 := by
    unfold allExitsA allComeA
    rw [exits_f (by omega) (by omega) (by omega) (by omega) (by omega) (by omega) (by omega) (by omega) (by omega) (by omega), advA_f (by omega), comes_f (by omega) (by omega) (by omega) (by omega) (by omega)]
  rw [e] at h
  rw [step_up (by decide) (by decide)]
  unfold midA allTurnsA
  rw [turs_f (by omega) (by omega) (by omega)]
  exact ⟨h.1, h.2.1⟩
theorem step_GON (h : GON A) : GON (stepA off A) := fun j h1 h2 => by
  rw [step_SP.2.2.2.1] at h2
  have := h j h1 h2
  have h9 := step_46 (off := off) (A := A) j
  rw [step_05]
  omega
theorem run_GON : ∀ (n : Nat) (A : AT), GON A → GON (runA off n A)
  | 0, _, h => h
  | n + 1, A, h => run_GON n _ (step_GON h)
/-- how many are lost -/
theorem come_48 (y : Int) : A 48 y ≤ comeA off A c 48 y ∧ comeA off A c 48 y ≤ A 48 y + 1 := by
  unfold comeA
  split
  · omega
  · split
    · rw [upA_s, upA_n (by decide)]
      split
      · next h => rw [h]; omega
      · omega
    · rw [joinA_f (by decide) (by decide) (by decide)]; omega
theorem comes_48 (y : Int) : ∀ (n : Nat) (c : Int) (A : AT), A 48 y ≤ comesA off n c A 48 y ∧ comesA off n c A 48 y ≤ A 48 y + n
  | 0, _, A => ⟨Int.le_refl _, by show A 48 y ≤ A 48 y + ((0 : Nat) : Int); omega⟩
  | n + 1, c, A => by
    have a := comes_48 y n (c + 1) (comeA off A c)
    have b := come_48 (off := off) (A := A) (c := c) y
    show A 48 y ≤ comesA off n (c + 1) (comeA off A c) 48 y ∧ comesA off n (c + 1) (comeA off A c) 48 y ≤ A 48 y + ((n + 1 : Nat) : Int)
    omega
theorem step_48 (hi : INV A T) (y : Int) : A 48 y ≤ stepA off A 48 y ∧ stepA off A 48 y ≤ A 48 y + 12 := by
  have g := hi.1
  have h := comes_48 (off := off) y (A 0 4).toNat 0 A
  rw [step_up (by decide) (by decide)]
  unfold midA allTurnsA allSidesA allExitsA
  rw [turs_f (by omega) (by omega) (by omega), sides_f (by omega) (by omega) (by omega) (by omega) (by omega) (by omega) (by omega), exits_f (by omega) (by omega) (by omega) (by omega) (by omega) (by omega) (by omega) (by omega) (by omega) (by omega), advA_f (by omega)]
  unfold allComeA
  omega
theorem run_48 (y : Int) : ∀ (n : Nat) (A : AT) (T : Int), INV A T → HLD A → A 48 y ≤ runA off n A 48 y ∧ runA off n A 48 y ≤ A 48 y + 12 * n
  | 0, A, _, _, _ => ⟨Int.le_refl _, by show A 48 y ≤ A 48 y + 12 * ((0 : Nat) : Int); omega⟩
  | n + 1, A, T, hi, hh => by
    have a := run_48 y n _ _ (step_INV (off := off) hi hh).1 (step_INV (off := off) hi hh).2
    have b := step_48 (off := off) hi y
    show A 48 y ≤ runA off n (stepA off A) 48 y ∧ runA off n (stepA off A) 48 y ≤ A 48 y + 12 * ((n + 1 : Nat) : Int)
    omega
end KEP
