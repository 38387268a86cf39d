/-! own places; the line that says what turns: both sides -/
section OWN
set_option maxRecDepth 100000
variable {z y a c lo hi v N x fr st : Int} {M M' M0 M1 M2 : Mem} {X : PX} {n m i p t b b' d k : Nat} {D : Nat → Int} {P : PS} {cs w ps : List Int} {u : Nat → Int}
theorem any_eq {α : Type} {f g : α → Bool} : ∀ (l : List α), (∀ x, x ∈ l → f x = g x) → l.any f = l.any g
  | [], _ => rfl
  | a :: l, h => by
    rw [List.any_cons, List.any_cons, h a List.mem_cons_self, any_eq l (fun x hx => h x (List.mem_cons_of_mem _ hx))]
def usB (u : Nat → Int) (k : Nat) (v : Int) : Bool := (List.range' 0 k).any fun j => decide (u j = v)
theorem ii_in2 {a b : Int} (h : ii a = ii b) (ha : -2147483648 ≤ a ∧ a < 2147483648) (hb : -2147483648 ≤ b ∧ b < 2147483648) : a = b := by
  have e := congrArg Int32.toInt h
  rw [ii_toInt ha.1 ha.2, ii_toInt hb.1 hb.2] at e
  exact e
theorem us_eq (hu : ∀ j, j < k → M (t + 1) j = ii (u j) ∧ 0 ≤ u j ∧ u j < 1000000) (hv : 0 ≤ v ∧ v ≤ 1000000) : ((List.range' 0 k).any fun j => decide (M (t + 1) j = ii v)) = usB u k v := by
  refine any_eq _ fun j hj => ?_
  have hj2 : j < k := by
    have := List.mem_range'_1.1 hj
    omega
  obtain ⟨h1, h2, h3⟩ := hu j hj2
  rw [h1]
  by_cases c : u j = v
  · rw [decide_eq_true c, c, decide_eq_true rfl]
  · rw [decide_eq_false c, decide_eq_false (fun w => c (ii_in2 w (by omega) (by omega)))]
def ownS (D : Nat → Int) (n : Nat) (N : Int) (us : Int → Bool) : PS → PS
  | .inl b => if tK D n b = 2 then (if us (nuV D n b) = true then .inr (3, b) else if nuV D n b < 0 ∨ N - 1 < nuV D n b then .inr (2, b) else .inl (nxD D n b)) else .inr (1, b)
  | .inr q => .inr q
theorem ownS_l {us : Int → Bool} : ownS D n N us (.inl b) = if tK D n b = 2 then (if us (nuV D n b) = true then .inr (3, b) else if nuV D n b < 0 ∨ N - 1 < nuV D n b then .inr (2, b) else .inl (nxD D n b)) else .inr (1, b) := rfl
theorem niF {q : Int × Nat} {C : Prop} (h : iF (.inr q)) : C := by
  obtain ⟨b, e⟩ := h
  cases e
theorem S204 (h : CTP M D n P) (hN : M 5 0 = ii N) (hN2 : 0 ≤ N ∧ N ≤ 1000000) (hk : k ≤ ln (t + 1)) (hu : ∀ j, j < k → M (t + 1) j = ii (u j) ∧ 0 ≤ u j ∧ u j < 1000000) : ∃ M' v, ev true 204 0 0 [pR 3 4, pR 2 1, pR 8 t, pI (ii k)] [] M X = some (.inl (some (pI (ii v))), M', X) ∧ CTP M' D n (ownS D n N (usB u k) P) ∧ FrC M M' ∧ (0 ≤ v ∧ v ≤ 1000000) ∧ (iF (ownS D n N (usB u k) P) → v = vaS D n P ∧ 0 ≤ v ∧ v ≤ N - 1) := by
  obtain ⟨M1, v1, s1, s2, s3, s4, s5, s6⟩ := S144 (X := X) h (lo := 0) (hi := N - 1) (by omega) (by omega)
  obtain ⟨M2, f1, f2, f3⟩ := S5 (X := X) h (c := 3) (by omega)
  have e25 : ∀ z2 z3, ev true 204 0 25 [pR 3 4, pR 2 1, z2, z3] [] M X = some (.inl (some (pI (ii v1))), M1, X) := fun z2 z3 => by
    rw [q204_25, hN, i_0, i_1, ii_sub, s1, kb1, q204_39]
  cases P with
  | inl b =>
    have hkk := h.2.1
    have hki := tk_in (D := D) (n := n) b
    rw [q204_0, S8k hkk, kb1, q204_4, i_0, bIT, ownS_l]
    by_cases c1 : tK D n b = 2
    · have hv := nuV_in c1
      rw [decide_eq_true c1, cond_true, S61 h.1 hkk c1, kb1, q204_12, S13 hk, us_eq hu hv, kb1, q204_16, i_0, bIT, if_pos c1]
      rw [numS_l, if_pos c1] at s2 s5
      cases c2 : usB u k (nuV D n b) with
      | true =>
        rw [cond_true, i_3, f1, kb1, q204_24, if_pos rfl]
        exact ⟨M2, 0, rfl, f2, f3, by omega, fun w => niF w⟩
      | false =>
        rw [cond_false, e25, if_neg Bool.false_ne_true]
        exact ⟨M1, v1, rfl, s2, s3, s4, s5⟩
    · rw [decide_eq_false c1, cond_false, e25, if_neg c1]
      rw [numS_l, if_neg c1] at s2 s5
      exact ⟨M1, v1, rfl, s2, s3, s4, s5⟩
  | inr q =>
    obtain ⟨f, p⟩ := q
    obtain ⟨b, hkk⟩ := h.2.1
    rw [q204_0, S8k hkk, kb1, q204_4, i_0, bIT]
    by_cases c1 : tK D n b = 2
    · rw [decide_eq_true c1, cond_true, S61 h.1 hkk c1, kb1, q204_12, S13 hk, kb1, q204_16, i_0, bIT]
      cases (List.range' 0 k).any fun j => decide (M (t + 1) j = ii (nuV D n b)) with
      | true =>
        rw [cond_true, i_3, f1, kb1, q204_24]
        exact ⟨M2, 0, rfl, f2, f3, by omega, fun w => niF w⟩
      | false =>
        rw [cond_false, e25]
        exact ⟨M1, v1, rfl, s2, s3, s4, fun w => niF w⟩
    · rw [decide_eq_false c1, cond_false, e25]
      exact ⟨M1, v1, rfl, s2, s3, s4, fun w => niF w⟩
theorem ln821 : ln 821 = 1434 := by decide +kernel
theorem inQ {α : Sort _} {x y : α} {z : Int} [d : Decidable (inB (ii z) (ln 821) = true)] (h : 0 ≤ z ∧ z < 1434) : (if inB (ii z) (ln 821) = true then x else y) = x := inbT (by rw [ln821]; omega)
theorem S220l (hg : 0 ≤ fr ∧ 0 ≤ st ∧ st ≤ 10 ∧ k ≤ 20 ∧ fr ≤ 1000 ∧ fr + st * k ≤ 1434) (hu : ∀ j, j < k → M0 821 (fr + st * j).toNat = ii (u j) ∧ 0 ≤ u j ∧ u j < 1000000) (hv : 0 ≤ v ∧ v ≤ 1000000) : ∀ (m j : Nat) (M : Mem), j + m = k → (∀ b, b ≠ 819 → M b = M0 b) → RTP M D n (.inl b) → ∃ M' z5, ev true 220 0 18 [pR 13 819, pI (ii fr), pI (ii st), pI (ii k), pI (ii v), pI (ii j)] [] M X = ev true 220 0 58 [pR 13 819, pI (ii fr), pI (ii st), pI (ii k), pI (ii v), z5] [] M' X ∧ RTP M' D n (bif ((List.range' j m).any fun i => decide (u i = v)) then .inr (3, b) else .inl b) ∧ FrP M M' := by
  intro m
  induction m with
  | zero =>
    intro j M h1 h2 h
    exact ⟨M, pI (ii j), by rw [q220_18, ltF (by omega)], h, FrP.rf⟩
  | succ m ih =>
    intro j M h1 h2 h
    obtain ⟨a1, a2, a3⟩ := hu j (by omega)
    have hj1 : st * (j : Int) ≤ 10 * 20 := Int.mul_le_mul (by omega) (by omega) (by omega) (by omega)
    have hj0 : 0 ≤ st * (j : Int) := Int.mul_nonneg (by omega) (by omega)
    have b23 := h.2.2.2.2.2.2
    rw [q220_18, ltT (by omega), b23, i_0, eqT rfl, ii_mul, ii_add, inQ (by omega), ii_nat (by omega) (by omega), h2 821 (by decide), a1, ieq (by omega), show List.range' j (m + 1) = j :: List.range' (j + 1) m from rfl, List.any_cons]
    by_cases c : u j = v
    · obtain ⟨M1, c1, c2, c3⟩ := S46 (X := X) h (c := 3) (by omega)
      have c2 : RTP M1 D n (.inr (3, b)) := c2
      have c4 := c2.2.1
      rw [if_pos c, i_3, c1, kb0, q220_52, q220_18, c4, i_0, eqF (by omega), ite_self, decide_eq_true c, Bool.true_or]
      exact ⟨M1, _, rfl, c2, c3⟩
    · obtain ⟨M1, z5, c1, c2, c3⟩ := ih (j + 1) M (by omega) h2 h
      rw [if_neg c, q220_52, i_1, ii_add, decide_eq_false c, Bool.false_or]
      exact ⟨M1, z5, c1, c2, c3⟩
theorem S220 (hg : 0 ≤ fr ∧ 0 ≤ st ∧ st ≤ 10 ∧ k ≤ 20 ∧ fr ≤ 1000 ∧ fr + st * k ≤ 1434) (h : RTP M D n P) (h0 : M 821 0 = ii N) (hN : 4 ≤ N ∧ N ≤ 40) (hu : ∀ j, j < k → M 821 (fr + st * j).toNat = ii (u j) ∧ 0 ≤ u j ∧ u j < N) : ∃ M' v, ev true 220 0 0 [pR 13 819, pI (ii fr), pI (ii st), pI (ii k), p0, p0] [] M X = some (.inl (some (pI (ii v))), M', X) ∧ RTP M' D n (ownS D n N (usB u k) P) ∧ FrP M M' ∧ (0 ≤ v ∧ v ≤ 1000000) ∧ (iF (ownS D n N (usB u k) P) → v = vaS D n P ∧ 0 ≤ v ∧ v ≤ N - 1) := by
  obtain ⟨M1, v, a1, a2, a3, a4, a5⟩ := S132 (X := X) h (lo := 0) (hi := N - 1) (by omega) (by omega)
  have pre : ev true 220 0 0 [pR 13 819, pI (ii fr), pI (ii st), pI (ii k), p0, p0] [] M X = ev true 220 0 18 [pR 13 819, pI (ii fr), pI (ii st), pI (ii k), pI (ii v), pI (ii 0)] [] M1 X := by
    rw [q220_0, i_0, inQ (by omega), h0, i_1, ii_sub, a1, kb1, q220_13, i_0]
  rw [pre]
  have bad : ∀ q, RTP M1 D n (.inr q) → ∃ M', ev true 220 0 18 [pR 13 819, pI (ii fr), pI (ii st), pI (ii k), pI (ii v), pI (ii 0)] [] M1 X = some (.inl (some (pI (ii v))), M', X) ∧ RTP M' D n (.inr q) ∧ FrP M M' := by
    intro q hq
    obtain ⟨f, p⟩ := q
    have c4 := hq.2.1
    have c5 := hq.2.2.1
    obtain ⟨M2, b1, b2, b3⟩ := S192 (X := X) hq
    exact ⟨M2, by rw [q220_18, c4, i_0, eqF (by omega), ite_self, q220_58, b1, kb0, q220_62], b2, a3.tr b3⟩
  cases P with
  | inr q =>
    obtain ⟨M2, b1, b2, b3⟩ := bad q a2
    exact ⟨M2, v, b1, b2, b3, a4, fun w => niF w⟩
  | inl b =>
    rw [herS_l] at a2 a5
    rw [ownS_l]
    by_cases c1 : tK D n b = 2
    · rw [if_pos c1] at a2 a5
      rw [if_pos c1]
      have hnv := nuV_in c1
      by_cases c2 : nuV D n b < 0 ∨ N - 1 < nuV D n b
      · rw [if_pos c2] at a2
        have e : usB u k (nuV D n b) = false := by
          cases hb : usB u k (nuV D n b)
          · rfl
          · obtain ⟨j, j1, j2⟩ := List.any_eq_true.1 hb
            have := List.mem_range'_1.1 j1
            have j2 := of_decide_eq_true j2
            have := hu j (by omega)
            omega
        obtain ⟨M2, b1, b2, b3⟩ := bad _ a2
        rw [e, if_neg Bool.false_ne_true, if_pos c2]
        exact ⟨M2, v, b1, b2, b3, a4, fun w => niF w⟩
      · rw [if_neg c2] at a2 a5
        obtain ⟨hv, hv2⟩ := a5 ⟨b, rfl⟩
        obtain ⟨M2, z5, b1, b2, b3⟩ := S220l (X := X) hg (M0 := M) (u := u) (fun j hj => ⟨(hu j hj).1, (hu j hj).2.1, by have := (hu j hj).2.2; omega⟩) a4 k 0 M1 (by omega) (fun b hb => a3.1 b hb) a2
        have hv3 : v = nuV D n b := hv
        rw [hv3] at b2
        have b2 : RTP M2 D n (bif usB u k (nuV D n b) then .inr (3, b) else .inl b) := b2
        obtain ⟨M3, d1, d2, d3⟩ := S192 (X := X) b2
        refine ⟨M3, v, by rw [show (ii 0 : Int32) = ii ((0 : Nat) : Int) from rfl, b1, q220_58, d1, kb0, q220_62], ?_, a3.tr (b3.tr d3), a4, fun _ => ⟨hv, hv2⟩⟩
        cases hb : usB u k (nuV D n b) with
        | true =>
          rw [hb] at d2
          rw [if_pos rfl]
          exact d2
        | false =>
          rw [hb] at d2
          rw [if_neg Bool.false_ne_true, if_neg c2]
          exact d2
    · rw [if_neg c1] at a2
      rw [if_neg c1]
      obtain ⟨M2, b1, b2, b3⟩ := bad _ a2
      exact ⟨M2, v, b1, b2, b3, a4, fun w => niF w⟩
/-- what a line changes on the class's side -/
def FrU (M M' : Mem) : Prop := (∀ b, b ≠ 1 → (b < 5 ∨ 39 ≤ b) → M' b = M b) ∧ ∀ k, k < 3 → M' 1 k = M 1 k
theorem FrU.rf : FrU M M := ⟨fun _ _ _ => rfl, fun _ _ => rfl⟩
theorem FrU.tr {M1 M2 M3 : Mem} (h1 : FrU M1 M2) (h2 : FrU M2 M3) : FrU M1 M3 := ⟨fun b a1 a2 => (h2.1 b a1 a2).trans (h1.1 b a1 a2), fun k h => (h2.2 k h).trans (h1.2 k h)⟩
theorem FrC.U (h : FrC M M') : FrU M M' := ⟨fun b a1 _ => h.1 b a1, fun k hk => h.2 k hk⟩
theorem FrJ.U (h : FrJ M M') : FrU M M' := ⟨fun b a1 a2 => h.1 b a1 (by omega) (by omega) (by omega), h.2.1⟩
/-- what a line changes on the reference's side -/
def FrV (M M' : Mem) : Prop := (∀ b, b ≠ 819 → b ≠ 821 → M' b = M b) ∧ ∀ k, k < 19 ∨ 24 < k → M' 819 k = M 819 k
theorem FrV.rf : FrV M M := ⟨fun _ _ _ => rfl, fun _ _ => rfl⟩
theorem FrV.tr {M1 M2 M3 : Mem} (h1 : FrV M1 M2) (h2 : FrV M2 M3) : FrV M1 M3 := ⟨fun b a1 a2 => (h2.1 b a1 a2).trans (h1.1 b a1 a2), fun k h => (h2.2 k h).trans (h1.2 k h)⟩
theorem FrP.V (h : FrP M M') : FrV M M' := ⟨fun b a1 _ => h.1 b a1, h.2⟩
theorem FrV.up {z : Nat} {v : Int32} : FrV M (upM M 821 z v) := ⟨fun b _ h => by funext y; exact up_n h, fun k _ => up_n (by decide)⟩
theorem RTP.q {z : Nat} {v : Int32} (h : RTP M D n P) : RTP (upM M 821 z v) D n P := h.kp (fun k _ _ => up_n (by decide)) (by funext y; exact up_n (by decide))
theorem S292l {x1 : Int32} {f e : Nat} (hx : x1 = ii f) (he : e ≤ n) (hfe : f ≤ e) : ∀ (m i : Nat) (M : Mem), i + m = e → f ≤ i → RB M D n → M 819 21 = ii e → ∃ M', ev true 292 0 60 [pR 13 819, pI x1, pI (ii i)] [] M X = some (.inl none, M', X) ∧ (∀ b, b ≠ 821 → M' b = M b) ∧ ∀ z : Nat, M' 821 z = if 934 + (i - f) ≤ z ∧ z < 934 + (e - f) then ii (D (f + (z - 934))) else M 821 z := by
  intro m
  induction m with
  | zero =>
    intro i M h1 h2 hb h21
    have h500 := hb.1
    refine ⟨M, by rw [q292_60, h21, ltF (by omega)], fun _ _ => rfl, fun z => by rw [if_neg (by omega)]⟩
  | succ m ih =>
    intro i M h1 h2 hb h21
    have h500 := hb.1
    obtain ⟨d0, d1, d2⟩ := hb.2.2 i (by omega)
    have ei : (ii (934 + (i : Int)) - ii (f : Int)).toNatClampNeg = 934 + (i - f) := by
      rw [ii_sub, ii_nat (by omega) (by omega)]; omega
    obtain ⟨M', a1, a2, a3⟩ := ih (i + 1) (upM M 821 (934 + (i - f)) (ii (D i))) (by omega) (by omega) ⟨hb.1, by rw [up_n (by decide)]; exact hb.2.1, fun j hj => by rw [up_n (by decide)]; exact hb.2.2 j hj⟩ (by rw [up_n (by decide)]; exact h21)
    refine ⟨M', ?_, fun b hb => (a2 b hb).trans (by funext y; exact up_n hb), fun z => ?_⟩
    · rw [q292_60, h21, ltT (by omega), inbT (by rw [ln827]; omega), i_934, ii_add, hx, ei, ii_sub, inQ (by omega), ii_nat (by omega) (by omega), show ((i : Int)).toNat = i by omega, d0, i_1, ii_add]
      rw [hx] at a1
      exact a1
    · rw [a3 z, up_s]
      by_cases c1 : z = 934 + (i - f)
      · subst c1
        rw [if_neg (by omega), if_pos rfl, if_pos (by omega)]
        congr 2
        omega
      · rw [if_neg c1]
        by_cases c2 : 934 + (i + 1 - f) ≤ z ∧ z < 934 + (e - f)
        · rw [if_pos c2, if_pos (by omega)]
        · rw [if_neg c2, if_neg (by omega)]
/-- what a law's code and its text have in common -/
def LawT (D : Nat → Int) (n f e : Nat) (cs : List Int) : Prop := f < e ∧ e ≤ n ∧ ∃ v, VSt cs 21 v ∧ EvG D n 282 [pR 13 819, p0, p0, p0] 0 f e v ∧ (LAt D f e ↔ (-6 : Int) ∈ cs)
theorem turns_ok (hb : b ≤ n) (hlt : b < nxD D n b) : ∃ (P' : PS) (cs : List Int) (e : Nat),
    (∀ (M : Mem) (X : PX), CTP M D n (.inl b) → M 5 17 = ii 0 → FV M 30 [] [] → ∃ M', ev true 274 0 0 [pR 3 4, pR 2 1, p0, p0, p0] [] M X = some (.inl none, M', X) ∧ CTP M' D n P' ∧ FrU M M' ∧ (∀ b, b ≠ 1 → b ≠ 5 → b ≠ 30 → b ≠ 34 → b ≠ 38 → M' b = M b) ∧ (∀ k, k ≠ 17 → M' 5 k = M 5 k) ∧ (iF P' → M' 5 17 = ii 1 ∧ FV M' 30 cs [])) ∧
    (∀ (M : Mem) (X : PX), RTP M D n (.inl b) → M 819 26 = ii 0 → M 821 9 = ii 0 → ∃ M', ev true 292 0 0 [pR 13 819, p0, p0] [] M X = some (.inl none, M', X) ∧ RTP M' D n P' ∧ FrV M M' ∧ (iF P' → M' 821 9 = ii 1 ∧ M' 821 10 = ii ((e : Int) - (nxD D n b : Nat)) ∧ (∀ i, nxD D n b ≤ i → i < e → M' 821 (934 + (i - nxD D n b)) = ii (D i)) ∧ ∀ z, z < 934 → z ≠ 9 → z ≠ 10 → M' 821 z = M 821 z)) ∧
    (iF P' → P' = .inl e ∧ NB D n e ∧ LawT D n (nxD D n b) e cs) := by
  have hn := nx_at (D := D) hb
  have hx := nx_in (D := D) hb
  obtain ⟨P1, r1, r2, r3⟩ := sum_at (D := D) hx.2.1 hn.2
  have tp : topL [] 1 := fun x t e => by cases e
  have beg : ∀ (M : Mem) (X : PX), CTP M D n (.inl b) → M 5 17 = ii 0 → FV M 30 [] [] → ∃ M1, ev true 274 0 0 [pR 3 4, pR 2 1, p0, p0, p0] [] M X = LPo 0 1 0 M1 X ∧ CTP M1 D n (.inl (nxD D n b)) ∧ FV M1 30 [] [] ∧ (∀ b, b ≠ 1 → b ≠ 5 → M1 b = M b) ∧ (∀ k, k < 3 → M1 1 k = M 1 k) ∧ (∀ k, k ≠ 17 → M1 5 k = M 5 k) ∧ M1 5 17 = ii 1 := by
    intro M X h1 h2 h3
    have k0 : CTP (upM M 5 17 (ii 1)) D n (.inl b) := h1.kp (by funext y; exact up_n (by decide)) (by funext y; exact up_n (by decide))
    obtain ⟨M1, a1, a2, a3⟩ := S60n (X := X) k0
    refine ⟨M1, ?_, a2, FV.C (M := upM M 5 17 (ii 1)) (h3.at (by funext y; exact up_n (by decide)) (by funext y; exact up_n (by decide)) (by funext y; exact up_n (by decide))) a3, fun b b1 b5 => (a3.1 b b1).trans (by funext y; exact up_n b5), fun k hk => (a3.2 k hk).trans (up_n (by decide)), fun k hk => by rw [a3.1 5 (by decide), up_d hk], by rw [a3.1 5 (by decide), up_s, if_pos rfl]⟩
    unfold LPo
    rw [q274_0, h2, i_0, eqT rfl, i_1, rk1, a1, kb0, q274_29, i_0, i_1]
  cases P1 with
  | inr f =>
    refine ⟨.inr f, [], 0, fun M X h1 h2 h3 => ?_, fun M X h1 h2 h3 => ?_, fun w => niF w⟩
    · obtain ⟨M1, a1, a2, a3, a4, a5, a6, a7⟩ := beg M X h1 h2 h3
      obtain ⟨M2, c1, c2, c3⟩ := r2 f rfl [] [] (Nat.zero_le _) tp M1 X 0 (by omega) a2 a3 (by show 0 + 0 + 1 ≤ _; omega)
      exact ⟨M2, a1.trans c1, c2, ⟨fun b k1 k2 => (c3.1 b k1 (by omega) (by omega) (by omega)).trans (a4 b k1 (by omega)), fun k hk => (c3.2.1 k hk).trans (a5 k hk)⟩, fun b b1 b5 b30 b34 b38 => (c3.1 b b1 b30 b34 b38).trans (a4 b b1 b5), fun k hk => by rw [c3.1 5 (by decide) (by decide) (by decide) (by decide)]; exact a6 k hk, fun w => niF w⟩
    · obtain ⟨M1, a1, a2, a3⟩ := S192 (X := X) h1
      obtain ⟨M2, c1, c2, c3⟩ := r1 M1 X 0 (Nat.zero_le _) a2 (by rw [a3.2 26 (by omega)]; exact h2)
      obtain ⟨f, p⟩ := f
      have g1 := c2.2.1
      have g2 := c2.2.2.1
      refine ⟨M2, ?_, c2, (a3.tr c3).V, fun w => niF w⟩
      rw [q292_0, i_9, inQ (by omega), h3, i_1, eqF (by omega), q292_16, a1, kb0, q292_20, c1, kb0, q292_29, g1, i_0, eqF (by omega)]
  | inl e =>
    obtain ⟨⟨g1, g2, g3, c1, ps, v, g4, g5, g6, g7, g8, g9⟩, g10, g11⟩ := r3 e rfl
    have g10 := g10 (by omega)
    obtain ⟨g11, g12⟩ := g11 rfl
    refine ⟨.inl e, c1 ++ ps, e, fun M X h1 h2 h3 => ?_, fun M X h1 h2 h3 => ?_, fun _ => ⟨rfl, g3, g1, g2, v, g7, g8, g9⟩⟩
    · obtain ⟨M1, a1, a2, a3, a4, a5, a6, a7⟩ := beg M X h1 h2 h3
      obtain ⟨M2, tk, t1, t2, t3, t4, t5, t6⟩ := g6 [] [] (Nat.zero_le _) tp M1 X 0 (by omega) a2 a3 (by show 0 + 0 + 1 ≤ _; omega)
      obtain ⟨M3, e1, e2, e3, e4⟩ := c_last (X := X) (op_0 g10 g11 g12) t1 t3 t4 t5
      obtain ⟨s1, s2⟩ := set_ap (ps := ps) (w := []) (k := 1) g4 (fun x t e => by cases e)
      rw [s1, s2, List.nil_append] at e3
      have f := t6.tr e4
      refine ⟨M3, a1.trans (t2.trans e1), e2, ⟨fun b k1 k2 => (f.1 b k1 (by omega) (by omega) (by omega)).trans (a4 b k1 (by omega)), fun k hk => (f.2.1 k hk).trans (a5 k hk)⟩, fun b b1 b5 b30 b34 b38 => (f.1 b b1 b30 b34 b38).trans (a4 b b1 b5), fun k hk => by rw [f.1 5 (by decide) (by decide) (by decide) (by decide)]; exact a6 k hk, fun _ => ⟨by rw [f.1 5 (by decide) (by decide) (by decide) (by decide)]; exact a7, e3⟩⟩
    · obtain ⟨M1, a1, a2, a3⟩ := S192 (X := X) h1
      obtain ⟨M2, c1, c2, c3⟩ := r1 M1 X 0 (Nat.zero_le _) a2 (by rw [a3.2 26 (by omega)]; exact h2)
      have b23 := c2.2.2.2.2.2.2
      have b21 := c2.2.2.1
      have f21 : M1 819 21 = ii (nxD D n b) := a2.2.2.1
      have k0 : RTP (upM (upM M2 821 9 (ii 1)) 821 10 (ii ((e : Int) - (nxD D n b : Nat)))) D n (.inl e) := c2.q.q
      obtain ⟨M3, d1, d2, d3⟩ := S292l (X := X) (D := D) (n := n) (x1 := ii (nxD D n b)) (f := nxD D n b) (e := e) rfl g2 (by omega) (e - nxD D n b) (nxD D n b) _ (by omega) (Nat.le_refl _) k0.1 k0.2.2.1
      refine ⟨M3, ?_, k0.kp (fun k _ _ => by rw [d2 819 (by decide)]) (d2 827 (by decide)), ⟨fun o q1 q2 => ?_, fun k hk => ?_⟩, fun _ => ⟨?_, ?_, fun i i1 i2 => ?_, fun z z1 z2 z3 => ?_⟩⟩
      · rw [q292_0, i_9, inQ (by omega), h3, i_1, eqF (by omega), q292_16, a1, kb0, q292_20, f21, c1, kb0, q292_29, b23, i_0, eqT rfl, i_9, inQ (by omega), i_10, inQ (by omega), up_n (show (819 : Nat) ≠ 821 by decide), b21, ii_sub, i_1]
        exact d1
      · rw [d2 o q2, ← (a3.tr c3).1 o q1]
        funext y
        rw [up_n q2, up_n q2]
      · rw [d2 819 (by decide), up_n (by decide), up_n (by decide)]
        exact (a3.tr c3).2 k hk
      · rw [d3 9, if_neg (by omega), up_d (by decide), up_s, if_pos rfl]
      · rw [d3 10, if_neg (by omega), up_s, if_pos rfl]
      · rw [d3, if_pos (by omega)]
        congr 2
        omega
      · rw [d3 z, if_neg (by omega), up_d z3, up_d z2, (a3.tr c3).1 821 (by decide)]
end OWN
