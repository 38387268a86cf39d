/-! the world between two calls, on both sides -/
section WLD
set_option maxRecDepth 100000
variable {u p v l g : Nat} {j q e w c T T' tu tv nx off sh i z y N t x : Int} {A B C I I' A' B' : AT} {M M' M0 : Mem} {X : PX} {L : Bool} {n s : Nat} {Q Q' : Nat → AT} {k : Bool} {D : Nat → Int} {f : Int}
/-- a state that can be -/
def PW (A : AT) (T : Int) : Prop := INV A T ∧ HLD A ∧ LW A ∧ SMI A ∧ GON A
theorem PW.le (h : PW A T) (h1 : T ≤ T') : PW A T' := ⟨INV_le h.1 h1, h.2⟩
theorem LW.run (n : Nat) (h : LW A) : LW (runA off n A) := h.sp (run_SP n A)
theorem PW.run (n : Nat) (h : PW A T) : PW (runA off n A) (T + n) := ⟨(run_INV n A T h.1 h.2.1).1, (run_INV n A T h.1 h.2.1).2, h.2.2.1.run n, run_SMI n A T h.1 h.2.1 h.2.2.2.1, run_GON n A h.2.2.2.2⟩
/-- the class's main state -/
def CS (M : Mem) (A : AT) : Prop := PLv M 49 A ∧ STv M 83 A ∧ M 83 17 = ii (-1)
/-- the slot of the i-th kept state of n -/
def slt (nx n i : Nat) : Nat := 135 + 50 * ((nx + 10 - n + i) % 10)
def AC (M : Mem) (n : Nat) (Q : Nat → AT) : Prop := ∃ nx : Nat, nx < 10 ∧ n ≤ 10 ∧ M 133 1 = ii nx ∧ M 133 2 = ii n ∧ ∀ i, i < n → STv M (slt nx n i) (Q i) ∧ M (slt nx n i) 17 = ii (-1)
def CI (M : Mem) (k : Bool) (I : AT) : Prop := M 0 10 = bI k ∧ (k = true → PLv M 735 I ∧ STv M 769 I ∧ M 769 17 = ii (-1))
def CD0 (M : Mem) (s : Nat) (D : Nat → Int) : Prop := M 1 1 = ii s ∧ ∀ i, i < s → M 3 i = ii (D i)
def CW (M : Mem) (A : AT) (n : Nat) (Q : Nat → AT) (k : Bool) (I : AT) (s : Nat) (D : Nat → Int) (f : Int) : Prop := CS M A ∧ AC M n Q ∧ CI M k I ∧ CD0 M s D ∧ M 0 11 = ii f
/-- another row seen as the reference's row -/
def vw (M : Mem) (a o : Nat) : Mem := fun b j => if b = 820 then M a (o + j) else M b j
def RS (M : Mem) (A : AT) : Prop := RR M A ∧ TXT M A ∧ TXL M A ∧ M 819 8 = ii (-1)
def TXE (M M' : Mem) : Prop := ∀ z, 0 ≤ z → z < 1434 → (z = 10 ∨ 934 ≤ z) → rr M' z = rr M z
def AR (M : Mem) (n : Nat) (Q : Nat → AT) : Prop := M 819 6 = ii n ∧ n ≤ 10 ∧ ∀ i, i < n → RR (vw M 824 (1434 * i)) (Q i) ∧ TXE M (vw M 824 (1434 * i))
def RI (M : Mem) (k : Bool) (I : AT) : Prop := M 819 5 = bI k ∧ (k = true → RR (vw M 823 0) I ∧ TXT (vw M 823 0) I ∧ TXL (vw M 823 0) I)
def RD0 (M : Mem) (s : Nat) (D : Nat → Int) : Prop := M 819 17 = ii s ∧ ∀ i, i < s → M 827 i = ii (D i)
def RWx (M : Mem) (A : AT) (n : Nat) (Q : Nat → AT) (k : Bool) (I : AT) (s : Nat) (D : Nat → Int) (f : Int) : Prop := RS M A ∧ AR M n Q ∧ RI M k I ∧ RD0 M s D ∧ M 819 25 = ii f
/-- what holds of the numbers alone -/
def ZW (T : Int) (A : AT) (n : Nat) (Q : Nat → AT) (k : Bool) (I : AT) (s : Nat) (D : Nat → Int) (f : Int) : Prop := PW A T ∧ n ≤ 10 ∧ (∀ i, i < n → PW (Q i) T ∧ SP A (Q i)) ∧ (k = true → PW I T) ∧ s ≤ 500 ∧ (∀ i, i < s → 0 ≤ D i ∧ D i < 256) ∧ -1 ≤ f ∧ f ≤ 500
theorem slt_in (nx n i : Nat) : ∃ j, j < 10 ∧ slt nx n i = 135 + 50 * j := ⟨(nx + 10 - n + i) % 10, by omega, rfl⟩
theorem stlA {j : Nat} (h : j < 10) : StL (135 + 50 * j) := by
  rcases (by omega : j = 0 ∨ j = 1 ∨ j = 2 ∨ j = 3 ∨ j = 4 ∨ j = 5 ∨ j = 6 ∨ j = 7 ∨ j = 8 ∨ j = 9) with rfl | rfl | rfl | rfl | rfl | rfl | rfl | rfl | rfl | rfl <;> exact stL_ok (by decide)
theorem stl83 : StL 83 := stL_ok (by decide)
theorem stl769 : StL 769 := stL_ok (by decide)
theorem pll49 : PlL 49 := plL_ok (by decide)
theorem pll5 : PlL 5 := plL_ok (by decide)
theorem pll735 : PlL 735 := plL_ok (by decide)
theorem AC_k (h : AC M n Q) (hf : ∀ b, 133 ≤ b → b < 635 → M' b = M b) : AC M' n Q := by
  obtain ⟨nx, a1, a2, a3, a4, a5⟩ := h
  refine ⟨nx, a1, a2, by rw [hf 133 (by omega) (by omega)]; exact a3, by rw [hf 133 (by omega) (by omega)]; exact a4, fun i hi => ?_⟩
  obtain ⟨b1, b2⟩ := a5 i hi
  obtain ⟨j, c1, c2⟩ := slt_in nx n i
  exact ⟨STv_k b1 (fun b d1 d2 => hf b (by omega) (by omega)) rfl, by rw [hf _ (by omega) (by omega)]; exact b2⟩
theorem CI_k (h : CI M k I) (h0 : M' 0 10 = M 0 10) (hf : ∀ b, 735 ≤ b → b < 819 → M' b = M b) : CI M' k I := ⟨h0.trans h.1, fun hk => by
  obtain ⟨a1, a2, a3⟩ := h.2 hk
  exact ⟨PLv_k a1 (fun b c1 c2 _ _ => hf b (by omega) (by omega)) SP.rf, STv_k a2 (fun b c1 c2 => hf b (by omega) (by omega)) rfl, by rw [hf 769 (by omega) (by omega)]; exact a3⟩⟩
theorem CD0_k (h : CD0 M s D) (h1 : M' 1 1 = M 1 1) (h3 : M' 3 = M 3) : CD0 M' s D := ⟨h1.trans h.1, fun i hi => by rw [h3]; exact h.2 i hi⟩
/-- nothing but the main state, the states for trials and scratch is written -/
def FrM (M M' : Mem) : Prop := ∀ b, (b < 83 ∨ 133 ≤ b) → (b < 635 ∨ 735 ≤ b) → b ≠ 76 → b ≠ 80 → M' b = M b
theorem CW.mv (h : CW M A n Q k I s D f) (hs : CS M' A') (hf : FrM M M') : CW M' A' n Q k I s D f := by
  obtain ⟨-, h2, h3, h4, h5⟩ := h
  exact ⟨hs, AC_k h2 (fun b c1 c2 => hf b (by omega) (by omega) (by omega) (by omega)), CI_k h3 (by rw [hf 0 (by omega) (by omega) (by omega) (by omega)]) (fun b c1 c2 => hf b (by omega) (by omega) (by omega) (by omega)), CD0_k h4 (by rw [hf 1 (by omega) (by omega) (by omega) (by omega)]) (hf 3 (by omega) (by omega) (by omega) (by omega)), by rw [hf 0 (by omega) (by omega) (by omega) (by omega)]; exact h5⟩
/-- the class's side doesn't see the reference's -/
theorem CW.fr (h : CW M A n Q k I s D f) (hf : ∀ b, b < 819 → M' b = M b) : CW M' A n Q k I s D f := by
  obtain ⟨h1, h2, h3, h4, h5⟩ := h
  exact ⟨⟨PLv_k h1.1 (fun b c1 c2 _ _ => hf b (by omega)) SP.rf, STv_k h1.2.1 (fun b c1 c2 => hf b (by omega)) rfl, by rw [hf 83 (by omega)]; exact h1.2.2⟩, AC_k h2 (fun b c1 c2 => hf b (by omega)), CI_k h3 (by rw [hf 0 (by omega)]) (fun b c1 c2 => hf b (by omega)), CD0_k h4 (by rw [hf 1 (by omega)]) (hf 3 (by omega)), by rw [hf 0 (by omega)]; exact h5⟩
theorem rr_vw {a o : Nat} (h : 0 ≤ z) : rr (vw M a o) z = M a (o + z.toNat) := by
  unfold rr vw
  rw [if_pos rfl]
theorem RR_c (h : RR M A) (hi : INV A T) (hf : ∀ z, 0 ≤ z → z < 1434 → rr M' z = rr M z) : RR M' A := by
  obtain ⟨r0, rx, rw9, rs, rc, rp, rb, rq, rl9⟩ := h
  have g := hi.1
  refine ⟨fun k a b => ?_, fun e a b => ?_, fun e a b => ?_, fun e a b => ?_, fun e a b => ?_, fun q a b => ?_, fun q k a0 a b c d => ?_, fun e k a b c d => ?_, fun e k a b c d => ?_⟩
  · rw [hf _ (by omega) (by omega)]; exact r0 k a b
  · have h9 := rx e a b
    rw [hf _ (by omega) (by omega), hf _ (by omega) (by omega), hf _ (by omega) (by omega), hf _ (by omega) (by omega), hf _ (by omega) (by omega)]; exact h9
  · have h9 := rw9 e a b
    rw [hf _ (by omega) (by omega), hf _ (by omega) (by omega), hf _ (by omega) (by omega)]; exact h9
  · have h9 := rs e a b
    rw [hf _ (by omega) (by omega), hf _ (by omega) (by omega), hf _ (by omega) (by omega), hf _ (by omega) (by omega), hf _ (by omega) (by omega), hf _ (by omega) (by omega), hf _ (by omega) (by omega), hf _ (by omega) (by omega), hf _ (by omega) (by omega), hf _ (by omega) (by omega)]; exact h9
  · have h9 := rc e a b
    rw [hf _ (by omega) (by omega), hf _ (by omega) (by omega), hf _ (by omega) (by omega), hf _ (by omega) (by omega)]; exact h9
  · have h9 := rp q a b
    rw [hf _ (by omega) (by omega), hf _ (by omega) (by omega), hf _ (by omega) (by omega), hf _ (by omega) (by omega), hf _ (by omega) (by omega), hf _ (by omega) (by omega)]; exact h9
  · have h9 := rb q k a0 a b c d
    rw [hf _ (by omega) (by omega)]; exact h9
  · have h8 : A 44 e ≤ 20 := by
      rcases Int.lt_or_le e (A 0 3) with h | h
      · obtain ⟨-, -, -, -, -, -, -, -, b9, b10, -⟩ := hi.2.2.2.1 e a h
        exact b10
      · have := hi.2.2.2.2.1 e h b
        omega
    have h9 := rq e k a b c d
    rw [hf _ (by omega) (by omega), hf _ (by omega) (by omega)]; exact h9
  · have h9 := rl9 e k a b c d
    rw [hf _ (by omega) (by omega)]; exact h9
theorem vw_at {a o : Nat} (h : M' a = M a) : ∀ z, 0 ≤ z → z < 1434 → rr (vw M' a o) z = rr (vw M a o) z := fun z z1 _ => by rw [rr_vw z1, rr_vw z1, h]
theorem AR_k (h : AR M n Q) (hq : ∀ i, i < n → INV (Q i) T) (h6 : M' 819 6 = M 819 6) (h8 : M' 824 = M 824) (ht : TXE M M') : AR M' n Q := ⟨h6.trans h.1, h.2.1, fun i hi => by
  obtain ⟨a1, a2⟩ := h.2.2 i hi
  refine ⟨RR_c a1 (hq i hi) (vw_at h8), fun z z1 z2 z3 => ?_⟩
  rw [vw_at h8 z z1 z2, a2 z z1 z2 z3, ht z z1 z2 z3]⟩
theorem RI_k (h : RI M k I) (hq : k = true → INV I T) (h5 : M' 819 5 = M 819 5) (h8 : M' 823 = M 823) : RI M' k I := ⟨h5.trans h.1, fun hk => by
  obtain ⟨a1, a2, a3⟩ := h.2 hk
  exact ⟨RR_c a1 (hq hk) (vw_at h8), a2.cp (fun z z1 z2 _ => vw_at h8 z z1 z2) SP.rf, a3.cp (fun z z1 z2 _ => vw_at h8 z z1 z2) SP.rf⟩⟩
theorem RD0_k (h : RD0 M s D) (h1 : M' 819 17 = M 819 17) (h3 : M' 827 = M 827) : RD0 M' s D := ⟨h1.trans h.1, fun i hi => by rw [h3]; exact h.2 i hi⟩
/-- what the reference's questions and runs leave -/
def FrN (M M' : Mem) : Prop := M' 823 = M 823 ∧ M' 824 = M 824 ∧ M' 827 = M 827 ∧ M' 819 5 = M 819 5 ∧ M' 819 6 = M 819 6 ∧ M' 819 17 = M 819 17 ∧ M' 819 25 = M 819 25 ∧ TXE M M'
theorem FrN.tr {M1 M2 M3 : Mem} (h1 : FrN M1 M2) (h2 : FrN M2 M3) : FrN M1 M3 := by
  obtain ⟨a1, a2, a3, a4, a5, a6, a7, a8⟩ := h1
  obtain ⟨b1, b2, b3, b4, b5, b6, b7, b8⟩ := h2
  exact ⟨b1.trans a1, b2.trans a2, b3.trans a3, b4.trans a4, b5.trans a5, b6.trans a6, b7.trans a7, fun z z1 z2 z3 => (b8 z z1 z2 z3).trans (a8 z z1 z2 z3)⟩
theorem FrN.rf : FrN M M := ⟨rfl, rfl, rfl, rfl, rfl, rfl, rfl, fun _ _ _ _ => rfl⟩
theorem FrN.r (h : FrR M M') : FrN M M' := ⟨h.1 _ (by decide) (by decide) (by decide), h.1 _ (by decide) (by decide) (by decide), h.1 _ (by decide) (by decide) (by decide), h.2.1 _ (by decide) (by decide), h.2.1 _ (by decide) (by decide), h.2.1 _ (by decide) (by decide), h.2.1 _ (by decide) (by decide), fun z z1 z2 z3 => h.2.2 z z1 z3⟩
theorem FrN.a (h : FrA M M') : FrN M M' := ⟨h.1 _ (by decide) (by decide) (by decide) (by decide), h.1 _ (by decide) (by decide) (by decide) (by decide), h.1 _ (by decide) (by decide) (by decide) (by decide), h.2 _ (by decide) (by decide) (by decide) (by decide) (by decide), h.2 _ (by decide) (by decide) (by decide) (by decide) (by decide), h.2 _ (by decide) (by decide) (by decide) (by decide) (by decide), h.2 _ (by decide) (by decide) (by decide) (by decide) (by decide), fun z z1 z2 z3 => rr_at (h.1 820 (by decide) (by decide) (by decide) (by decide))⟩
theorem FrN.up {j : Nat} {v : Int32} (h5 : j ≠ 5) (h6 : j ≠ 6) (h17 : j ≠ 17) (h25 : j ≠ 25) : FrN M (upM M 819 j v) := ⟨by funext y; exact up_n (by decide), by funext y; exact up_n (by decide), by funext y; exact up_n (by decide), up_d (fun z => h5 z.symm), up_d (fun z => h6 z.symm), up_d (fun z => h17 z.symm), up_d (fun z => h25 z.symm), fun z _ _ _ => rr_un (by decide)⟩
theorem RWx.mv (h : RWx M A n Q k I s D f) (hz : ZW T A n Q k I s D f) (hs : RS M' A') (hf : FrN M M') : RWx M' A' n Q k I s D f := by
  obtain ⟨-, h2, h3, h4, h5⟩ := h
  obtain ⟨a1, a2, a3, a4, a5, a6, a7, a8⟩ := hf
  exact ⟨hs, AR_k h2 (fun i hi => (hz.2.2.1 i hi).1.1) a5 a2 a8, RI_k h3 (fun hk => (hz.2.2.2.1 hk).1) a4 a1, RD0_k h4 a6 a3, a7.trans h5⟩
theorem RS.mv (h : RS M A) (hi : INV A T) (h1 : ∀ z, 0 ≤ z → z < 1434 → rr M' z = rr M z) (h8 : M' 819 8 = M 819 8) : RS M' A := ⟨RR_c h.1 hi h1, h.2.1.cp (fun z z1 z2 _ => h1 z z1 z2) SP.rf, h.2.2.1.cp (fun z z1 z2 _ => h1 z z1 z2) SP.rf, h8.trans h.2.2.2⟩
theorem RWx.fr (h : RWx M A n Q k I s D f) (hz : ZW T A n Q k I s D f) (hf : ∀ b, 819 ≤ b → M' b = M b) : RWx M' A n Q k I s D f := h.mv hz (h.1.mv hz.1.1 (fun z _ _ => rr_at (hf 820 (by omega))) (by rw [hf 819 (by omega)])) ⟨hf _ (by omega), hf _ (by omega), hf _ (by omega), by rw [hf 819 (by omega)], by rw [hf 819 (by omega)], by rw [hf 819 (by omega)], by rw [hf 819 (by omega)], fun z _ _ _ => rr_at (hf 820 (by omega))⟩
/-- a kept act more -/
def kpN (n : Nat) : Nat := if n = 10 then 10 else n + 1
def kpQ (n : Nat) (Q : Nat → AT) (A : AT) (i : Nat) : AT := if i + 1 = kpN n then A else if n = 10 then Q (i + 1) else Q i
end WLD
