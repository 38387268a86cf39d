/-! the lines of a text, both sides, over one raw row of numbers -/
section LINS
set_option maxRecDepth 100000
variable {z y a c lo hi v N x fr st k0 b0 wd : Int} {M M' M0 M1 M2 : Mem} {X : PX} {n m i p t b b' d k ne nw ns nc : Nat} {D : Nat → Int} {P : PS} {R R' : Int → Int} {f : Int → Int}
def blk (R : Int → Int) (k0 : Int) (ne : Nat) (b0 wd : Int) (f : Int → Int) : Int → Int := fun z => if z = k0 then ne + 1 else if b0 ≤ z ∧ z < b0 + wd then f (z - b0) else R z
theorem blk_o (h1 : z ≠ k0) (h2 : z < b0 ∨ b0 + wd ≤ z) : blk R k0 ne b0 wd f z = R z := by
  unfold blk
  rw [if_neg h1, if_neg (by omega)]
theorem blk_i (hk : k0 < b0) (h1 : b0 ≤ z) (h2 : z < b0 + wd) : blk R k0 ne b0 wd f z = f (z - b0) := by
  unfold blk
  rw [if_neg (by omega), if_pos ⟨h1, h2⟩]
theorem blk_k : blk R k0 ne b0 wd f k0 = ne + 1 := by
  unfold blk
  rw [if_pos rfl]
def RVw (M : Mem) (R : Int → Int) : Prop := ∀ z : Nat, z < 934 → M 821 z = ii (R z)
def plT : List (Nat × Int × Int × Int) := [(7, 1, 12, 5), (9, 1, 13, 5), (11, 2, 42, 3), (13, 2, 43, 3), (15, 3, 66, 10), (17, 3, 67, 10), (19, 3, 68, 10), (21, 3, 69, 10), (23, 4, 126, 4), (25, 4, 127, 4), (27, 4, 128, 4), (29, 4, 129, 4)]
def PlC (M : Mem) (R : Int → Int) : Prop := (M 5 0 = ii (R 0) ∧ M 5 1 = ii (R 1) ∧ M 5 4 = ii (R 2) ∧ M 5 7 = ii (R 3) ∧ M 5 12 = ii (R 4) ∧ M 5 17 = ii (R 9)) ∧ ∀ q, q ∈ plT → ∀ j : Nat, (j : Int) < R q.2.1 → M q.1 j = ii (R (q.2.2.1 + q.2.2.2 * j))
def BlI (R : Int → Int) : Prop := (∀ k, 5 ≤ k → k ≤ 8 → R k = 0) ∧ (∀ e : Nat, e < 6 → R (14 + 5 * e) = 0 ∧ R (16 + 5 * e) = 0) ∧ (∀ w : Nat, w < 8 → R (44 + 3 * w) = 0) ∧ (∀ s : Nat, s < 6 → ∀ k : Int, 4 ≤ k → k ≤ 9 → R (66 + 10 * s + k) = 0) ∧ (∀ z, 174 ≤ z → z < 414 → R z = -1)
def RdI (R : Int → Int) : Prop := (4 ≤ R 0 ∧ R 0 ≤ 40 ∧ 0 ≤ R 1 ∧ R 1 ≤ 6 ∧ 0 ≤ R 2 ∧ R 2 ≤ 8 ∧ 0 ≤ R 3 ∧ R 3 ≤ 6 ∧ 0 ≤ R 4 ∧ R 4 ≤ 12 ∧ 0 ≤ R 9 ∧ R 9 ≤ 1) ∧
  (∀ e : Nat, (e : Int) < R 1 → 0 ≤ R (12 + 5 * e) ∧ R (12 + 5 * e) < R 0 ∧ 1 ≤ R (13 + 5 * e) ∧ R (13 + 5 * e) ≤ 9 ∧ R (15 + 5 * e) = -1) ∧
  (∀ w : Nat, (w : Int) < R 2 → 0 ≤ R (42 + 3 * w) ∧ R (42 + 3 * w) < R 1 ∧ 0 ≤ R (43 + 3 * w) ∧ R (43 + 3 * w) ≤ 1) ∧
  (∀ s : Nat, (s : Int) < R 3 → 0 ≤ R (66 + 10 * s) ∧ R (66 + 10 * s) < R 0 ∧ 1 ≤ R (67 + 10 * s) ∧ R (67 + 10 * s) ≤ 20 ∧ 0 ≤ R (68 + 10 * s) ∧ R (68 + 10 * s) < R 0 ∧ 1 ≤ R (69 + 10 * s) ∧ R (69 + 10 * s) ≤ 9) ∧
  (∀ c : Nat, (c : Int) < R 4 → 0 ≤ R (126 + 4 * c) ∧ R (126 + 4 * c) < R 3 ∧ 0 ≤ R (127 + 4 * c) ∧ R (127 + 4 * c) < R 2 ∧ 1 ≤ R (128 + 4 * c) ∧ R (128 + 4 * c) ≤ 30 ∧ 0 ≤ R (129 + 4 * c) ∧ R (129 + 4 * c) ≤ 999) ∧ BlI R
def FrL (M M' : Mem) : Prop := (∀ b, b ≠ 1 → (b < 5 ∨ 30 ≤ b) → M' b = M b) ∧ ∀ k, k < 3 → M' 1 k = M 1 k
theorem FrL.rf : FrL M M := ⟨fun _ _ _ => rfl, fun _ _ => rfl⟩
theorem FrL.tr {M1 M2 M3 : Mem} (h1 : FrL M1 M2) (h2 : FrL M2 M3) : FrL M1 M3 := ⟨fun b a1 a2 => (h2.1 b a1 a2).trans (h1.1 b a1 a2), fun k h => (h2.2 k h).trans (h1.2 k h)⟩
theorem FrC.L (h : FrC M M') : FrL M M' := ⟨fun b a1 _ => h.1 b a1, fun k hk => h.2 k hk⟩
theorem FrL.U (h : FrL M M') : FrU M M' := ⟨fun b a1 a2 => h.1 b a1 (by omega), h.2⟩
theorem FrL.on {a : Nat} (h1 : ∀ b, b ≠ a → M' b = M b) (h2 : 5 ≤ a ∧ a < 30) : FrL M M' := ⟨fun b b1 b2 => h1 b (by omega), fun k _ => by rw [h1 1 (by omega)]⟩
theorem CTP.on {a : Nat} (h : CTP M D n P) (h1 : ∀ b, b ≠ a → M' b = M b) (h2 : 5 ≤ a) : CTP M' D n P := h.kp (h1 1 (by omega)) (h1 3 (by omega))
theorem S11g {v : Int32} (h : 0 ≤ z ∧ z < 1000) : ∃ M', ev true 11 0 0 [pR 8 t, pI (ii z), pI v] [] M X = some (.inl none, M', X) ∧ (∀ b, b ≠ t + 1 → M' b = M b) ∧ (z < rl t → ∀ j : Nat, M' (t + 1) j = if (j : Int) = z then v else M (t + 1) j) := by
  by_cases c : z < rl t
  · refine ⟨_, S11 h.1 c, fun b hb => by funext y; exact sc_n hb, fun _ j => ?_⟩
    show upM M (t + 1) z.toNat v (t + 1) j = _
    rw [up_s]
    by_cases k : (j : Int) = z
    · rw [if_pos k, if_pos (by omega)]
    · rw [if_neg k, if_neg (by omega)]
  · exact ⟨M, S11o (Or.inr (by omega)) (by omega) (by omega), fun _ _ => rfl, fun w => absurd w c⟩
theorem iF_num (h : iF (numS D n lo hi P)) : iF P := by
  cases P with
  | inl b => exact ⟨b, rfl⟩
  | inr q => exact niF h
theorem iF_own {us : Int → Bool} (h : iF (ownS D n N us P)) : iF P := by
  cases P with
  | inl b => exact ⟨b, rfl⟩
  | inr q => exact niF h
theorem iF_one {F : Prop} [Decidable F] (h : iF (oneS D n F P)) : ¬ F ∧ iF P := by
  unfold oneS at h
  rw [iF_nx] at h
  by_cases c : F
  · rw [if_pos c] at h
    cases P with
    | inl b => exact niF h
    | inr q => exact niF h
  · rw [if_neg c] at h
    exact ⟨c, h⟩
theorem rlq (t : Nat) (m : Nat) (h : ln (t + 1) = m) : rl t = m := by unfold rl; rw [h]
theorem ln6 : ln (6 + 1) = 6 := by decide +kernel
theorem ln8 : ln (8 + 1) = 6 := by decide +kernel
theorem ln10 : ln (10 + 1) = 8 := by decide +kernel
theorem ln12 : ln (12 + 1) = 8 := by decide +kernel
theorem ln14 : ln (14 + 1) = 6 := by decide +kernel
theorem ln16 : ln (16 + 1) = 6 := by decide +kernel
theorem ln18 : ln (18 + 1) = 6 := by decide +kernel
theorem ln20 : ln (20 + 1) = 6 := by decide +kernel
theorem ln22 : ln (22 + 1) = 12 := by decide +kernel
theorem ln24 : ln (24 + 1) = 12 := by decide +kernel
theorem ln26 : ln (26 + 1) = 12 := by decide +kernel
theorem ln28 : ln (28 + 1) = 12 := by decide +kernel
/-- a line's rows, all at once -/
theorem PlC_add (h : PlC M R) (hi : RdI R) (h5 : ∀ k, k ≠ 0 → k ≠ 1 → k ≠ 4 → k ≠ 7 → k ≠ 12 → k ≠ 17 → True) (hh : M' 5 0 = ii (R' 0) ∧ M' 5 1 = ii (R' 1) ∧ M' 5 4 = ii (R' 2) ∧ M' 5 7 = ii (R' 3) ∧ M' 5 12 = ii (R' 4) ∧ M' 5 17 = ii (R' 9)) (hR : ∀ q, q ∈ plT → q.2.1 ≠ k0 → R' q.2.1 = R q.2.1) (hk : R k0 = ne) (hk1 : R' k0 = ne + 1) (hc : ∀ q, q ∈ plT → ∀ j : Nat, (j : Int) < R q.2.1 → R' (q.2.2.1 + q.2.2.2 * j) = R (q.2.2.1 + q.2.2.2 * j)) (ho : ∀ q, q ∈ plT → q.2.1 ≠ k0 → M' q.1 = M q.1) (hn : ∀ q, q ∈ plT → q.2.1 = k0 → ∀ j : Nat, M' q.1 j = if j = ne then ii (R' (q.2.2.1 + q.2.2.2 * ne)) else M q.1 j) : PlC M' R' := by
  refine ⟨hh, fun q hq j hj => ?_⟩
  by_cases c : q.2.1 = k0
  · rw [hn q hq c j]
    rw [c, hk1] at hj
    by_cases e : j = ne
    · rw [if_pos e, e]
    · rw [if_neg e, hc q hq j (by rw [c, hk]; omega)]
      exact h.2 q hq j (by rw [c, hk]; omega)
  · rw [hR q hq c] at hj
    rw [ho q hq c, hc q hq j hj]
    exact h.2 q hq j hj
end LINS
