/-! numbers and words of a text: the class -/
section NUMS
set_option maxRecDepth 100000
variable {z y a b c d f lo hi v : Int} {M M' M0 M1 M2 : Mem} {X : PX} {n m i e p t : Nat} {D : Nat → Int} {P : PS}
def nuF (D : Nat → Int) : Nat → Nat → Int → Int
  | 0, _, v => v
  | m + 1, i, v => nuF D m (i + 1) (if 1000000 < v * 10 + D i - 48 then 1000000 else v * 10 + D i - 48)
def nuV (D : Nat → Int) (n b : Nat) : Int := nuF D (tE D n b - b) b 0
theorem nuF_in : ∀ (m i : Nat) (v : Int), (∀ j, i ≤ j → j < i + m → 48 ≤ D j ∧ D j ≤ 57) → 0 ≤ v ∧ v ≤ 1000000 → 0 ≤ nuF D m i v ∧ nuF D m i v ≤ 1000000
  | 0, _, _, _, h => h
  | m + 1, i, v, hd, h => by
    unfold nuF
    have := hd i (Nat.le_refl _) (by omega)
    refine nuF_in m (i + 1) _ (fun j h1 h2 => hd j (by omega) (by omega)) ?_
    split <;> omega
theorem kd_2 (h : kdC c = 2) : 48 ≤ c ∧ c ≤ 57 := by
  unfold kdC at h
  split at h
  · omega
  · split at h <;> omega
theorem kd_1 (h : kdC c = 1) : 97 ≤ c ∧ c ≤ 122 := by
  unfold kdC at h
  split at h
  · omega
  · split at h <;> omega
theorem kd_3 (h : kdC c = 3) : ¬ (48 ≤ c ∧ c ≤ 57) ∧ ¬ (97 ≤ c ∧ c ≤ 122) := by
  unfold kdC at h
  split at h
  · omega
  · split at h <;> omega
theorem tk_dig {b : Nat} (h : tK D n b = 2) : b < n ∧ tE D n b ≤ n ∧ b + 1 ≤ tE D n b ∧ ∀ j, b ≤ j → j < tE D n b → 48 ≤ D j ∧ D j ≤ 57 := by
  obtain ⟨h1, h2⟩ := tk_lt (D := D) (n := n) (b := b) (by omega)
  obtain ⟨a1, a2, a3, a4⟩ := te_in (D := D) h1
  exact ⟨h1, a2, a1, fun j j1 j2 => kd_2 (by rw [a3 j j1 j2]; omega)⟩
theorem nuV_in {b : Nat} (h : tK D n b = 2) : 0 ≤ nuV D n b ∧ nuV D n b ≤ 1000000 := by
  obtain ⟨h1, h2, h3, h4⟩ := tk_dig h
  exact nuF_in _ _ _ (fun j j1 j2 => h4 j j1 (by omega)) (by omega)
theorem S61l {b0 : Nat} (hb : CB M D n) (h5 : M 1 5 = ii e) (he : e ≤ n) : ∀ (m i : Nat) (v : Int), i + m = e → (∀ j, i ≤ j → j < e → 48 ≤ D j ∧ D j ≤ 57) → 0 ≤ v ∧ v ≤ 1000000 → ev true 61 0 7 [pR 2 1, pI (ii v), pI (ii i)] [] M X = some (.inl (some (pI (ii (nuF D m i v)))), M, X) := by
  have h500 := hb.1
  intro m
  induction m with
  | zero =>
    intro i v h1 h2 h3
    rw [q61_7, h5, ltF (by omega)]
    rfl
  | succ m ih =>
    intro i v h1 h2 h3
    obtain ⟨d1, d2⟩ := h2 i (Nat.le_refl _) (by omega)
    have hh := ih (i + 1) (if 1000000 < v * 10 + D i - 48 then 1000000 else v * 10 + D i - 48) (by omega) (fun j j1 j2 => h2 j (by omega) j2) (by split <;> omega)
    rw [q61_7, h5, ltT (by omega), S12b hb (by omega), kb1, i_10, ii_mul, q61_27, i_1000000, i_48, ii_add, ii_sub, q61_36, i_1, ii_add]
    have e1 : (if ii 1000000 < ii (v * 10 + D i - 48) then ii 1000000 else ii (v * 10 + D i - 48)) = ii (if 1000000 < v * 10 + D i - 48 then 1000000 else v * 10 + D i - 48) := by
      rw [ilt (by omega)]; split <;> rfl
    rw [e1]
    exact hh
theorem S61 {b : Nat} (hb : CB M D n) (h : CTk M D n b) (hk : tK D n b = 2) : ev true 61 0 0 [pR 2 1, p0, p0] [] M X = some (.inl (some (pI (ii (nuV D n b)))), M, X) := by
  obtain ⟨h1, h2, h3, h4⟩ := tk_dig hk
  rw [q61_0, h.2.1, i_0]
  exact S61l (b0 := b) hb h.2.2.1 h2 (tE D n b - b) b 0 (by omega) h4 (by omega)
def numS (D : Nat → Int) (n : Nat) (lo hi : Int) : PS → PS
  | .inl b => if tK D n b = 2 then (if nuV D n b < lo ∨ hi < nuV D n b then .inr (2, b) else .inl (nxD D n b)) else .inr (1, b)
  | .inr q => .inr q
theorem numS_l {b : Nat} : numS D n lo hi (.inl b) = if tK D n b = 2 then (if nuV D n b < lo ∨ hi < nuV D n b then .inr (2, b) else .inl (nxD D n b)) else .inr (1, b) := rfl
def vaS (D : Nat → Int) (n : Nat) : PS → Int
  | .inl b => nuV D n b
  | .inr _ => 0
def iF (P : PS) : Prop := ∃ b, P = .inl b
theorem S144 (h : CTP M D n P) (hl : -2147483648 ≤ lo ∧ lo < 2147483648) (hh : -2147483648 ≤ hi ∧ hi < 2147483648) : ∃ M' v, ev true 144 0 0 [pR 2 1, pI (ii lo), pI (ii hi), p0] [] M X = some (.inl (some (pI (ii v))), M', X) ∧ CTP M' D n (numS D n lo hi P) ∧ FrC M M' ∧ (0 ≤ v ∧ v ≤ 1000000) ∧ (iF (numS D n lo hi P) → v = vaS D n P ∧ lo ≤ v ∧ v ≤ hi) ∧ (iF P → v = 0 ∨ (lo ≤ v ∧ v ≤ hi)) := by
  obtain ⟨b, hk⟩ : ∃ b, CTk M D n b := by
    cases P with
    | inl b => exact ⟨b, h.2.1⟩
    | inr q => obtain ⟨f, p⟩ := q; exact h.2.1
  have hki := tk_in (D := D) (n := n) b
  rw [q144_0, hk.2.2.2, i_2, ieq (by omega)]
  by_cases c1 : tK D n b = 2
  · have hv := nuV_in c1
    rw [if_pos c1, S61 h.1 hk c1, kb1, q144_18, ilt (by omega), ilt (by omega)]
    have bad : (nuV D n b < lo ∨ hi < nuV D n b) → ∃ M' v, ev true 144 0 29 [pR 2 1, pI (ii lo), pI (ii hi), pI (ii (nuV D n b))] [] M X = some (.inl (some (pI (ii v))), M', X) ∧ CTP M' D n (numS D n lo hi P) ∧ FrC M M' ∧ (0 ≤ v ∧ v ≤ 1000000) ∧ (iF (numS D n lo hi P) → v = vaS D n P ∧ lo ≤ v ∧ v ≤ hi) ∧ (iF P → v = 0 ∨ (lo ≤ v ∧ v ≤ hi)) := by
      intro hx
      obtain ⟨M', a1, a2, a3⟩ := S5 (X := X) h (c := 2) (by omega)
      refine ⟨M', 0, by rw [q144_29, i_2, a1, kb1, q144_34], ?_, a3, by omega, fun w => ?_, fun _ => Or.inl rfl⟩
      · cases P with
        | inl b' =>
          have e : b' = b := by have e1 := h.2.1.2.1; rw [hk.2.1] at e1; have h1 := h.2.1.1; have h2 := hk.1; have h3 := h.1.1; have e2 := congrArg Int32.toInt e1; rw [ii_toInt (by omega) (by omega), ii_toInt (by omega) (by omega)] at e2; omega
          subst e
          rw [numS_l, if_pos c1, if_pos hx]
          exact a2
        | inr q => exact a2
      · exfalso
        obtain ⟨b2, e2⟩ := w
        cases P with
        | inl b' =>
          have e : b' = b := by have e1 := h.2.1.2.1; rw [hk.2.1] at e1; have h1 := h.2.1.1; have h2 := hk.1; have h3 := h.1.1; have e2 := congrArg Int32.toInt e1; rw [ii_toInt (by omega) (by omega), ii_toInt (by omega) (by omega)] at e2; omega
          subst e
          rw [numS_l, if_pos c1, if_pos hx] at e2
          cases e2
        | inr q => cases e2
    by_cases c2 : nuV D n b < lo
    · rw [if_pos c2]; exact bad (Or.inl c2)
    · rw [if_neg c2]
      by_cases c3 : hi < nuV D n b
      · rw [if_pos c3]; exact bad (Or.inr c3)
      · rw [if_neg c3]
        cases P with
        | inl b' =>
          have e : b' = b := by have e1 := h.2.1.2.1; rw [hk.2.1] at e1; have h1 := h.2.1.1; have h2 := hk.1; have h3 := h.1.1; have e2 := congrArg Int32.toInt e1; rw [ii_toInt (by omega) (by omega), ii_toInt (by omega) (by omega)] at e2; omega
          subst e
          obtain ⟨M', a1, a2, a3⟩ := S60n (X := X) h
          refine ⟨M', nuV D n b', by rw [h.2.2.1, i_0, eqT rfl, a1, kb0, q144_46], ?_, a3, hv, fun _ => ⟨rfl, by omega, by omega⟩, fun _ => Or.inr ⟨by omega, by omega⟩⟩
          rw [numS_l, if_pos c1, if_neg (by omega)]
          exact a2
        | inr q =>
          obtain ⟨f, p⟩ := q
          have h6 := h.2.2.1
          have h7 := h.2.2.2.1
          refine ⟨M, nuV D n b, by rw [h6, i_0, eqF (by omega), q144_46], h, FrC.rf, hv, fun w => ?_, fun w => ?_⟩
          · obtain ⟨b2, e2⟩ := w
            cases e2
          · obtain ⟨b2, e2⟩ := w
            cases e2
  · rw [if_neg c1]
    obtain ⟨M', a1, a2, a3⟩ := S5 (X := X) h (c := 1) (by omega)
    refine ⟨M', 0, by rw [i_1, a1, kb1, q144_13], ?_, a3, by omega, fun w => ?_, fun _ => Or.inl rfl⟩
    · cases P with
      | inl b' =>
        have e : tK D n b' ≠ 2 := by
          intro w
          have e1 := h.2.1.2.2.2
          rw [hk.2.2.2] at e1
          have e2 := congrArg Int32.toInt e1
          rw [ii_toInt (by omega) (by omega), ii_toInt (by omega) (by omega)] at e2
          omega
        rw [numS_l, if_neg e]
        exact a2
      | inr q => exact a2
    · exfalso
      obtain ⟨b2, e2⟩ := w
      cases P with
      | inl b' =>
        have e : tK D n b' ≠ 2 := by
          intro w
          have e1 := h.2.1.2.2.2
          rw [hk.2.2.2] at e1
          have e3 := congrArg Int32.toInt e1
          rw [ii_toInt (by omega) (by omega), ii_toInt (by omega) (by omega)] at e3
          omega
        rw [numS_l, if_neg e] at e2
        cases e2
      | inr q => cases e2
theorem S8k {b : Nat} (h : CTk M D n b) : ev true 8 0 0 [pR 2 1] [] M X = some (.inl (some (pI (bI (decide (tK D n b = 2))))), M, X) := by
  have hki := tk_in (D := D) (n := n) b
  rw [q8_0, h.2.2.2, i_2, i_0, i_1, ieq (by omega), q8_13, q8_13, rk0, rk1]
  by_cases c : tK D n b = 2
  · rw [if_pos c, decide_eq_true c]; rfl
  · rw [if_neg c, decide_eq_false c]; rfl
theorem S7k {b : Nat} (h : CTk M D n b) : ev true 7 0 0 [pR 2 1] [] M X = some (.inl (some (pI (bI (decide (tK D n b = 0))))), M, X) := by
  have hki := tk_in (D := D) (n := n) b
  rw [q7_0, h.2.2.2, i_0, i_1, ieq (by omega), q7_12, q7_12, rk0, rk1]
  by_cases c : tK D n b = 0
  · rw [if_pos c, decide_eq_true c]; rfl
  · rw [if_neg c, decide_eq_false c]; rfl
def fiB : PS → Bool
  | .inl _ => true
  | .inr _ => false
theorem S6 (h : CTP M D n P) : ev true 6 0 0 [pR 2 1] [] M X = some (.inl (some (pI (bI (fiB P)))), M, X) := by
  rw [q6_0, i_0, i_1, q6_12, q6_12, rk0, rk1]
  cases P with
  | inl b => rw [h.2.2.1, eqT rfl]; rfl
  | inr q =>
    obtain ⟨f, p⟩ := q
    have h6 := h.2.2.1
    have h7 := h.2.2.2.1
    rw [h6, eqF (by omega)]; rfl
/-- words -/
theorem sch_lt (t k : Nat) : sch t k < 128 := by
  have h1 : ∀ l ∈ strT, ∀ x ∈ l, x < 128 := by decide +kernel
  unfold sch
  rw [List.getD_eq_getElem?_getD, List.getD_eq_getElem?_getD]
  cases e1 : strT[t]? with
  | none => simp
  | some l =>
    have m1 : l ∈ strT := List.mem_of_getElem? e1
    show l[k]?.getD 0 < 128
    cases e2 : l[k]? with
    | none => simp
    | some x => exact h1 l m1 x (List.mem_of_getElem? e2)
theorem sln_le (t : Nat) : sln t ≤ 10 := by
  have h1 : ∀ l ∈ strT, l.length ≤ 10 := by decide +kernel
  unfold sln
  rw [List.getD_eq_getElem?_getD]
  cases e1 : strT[t]? with
  | none => simp
  | some l => exact h1 l (List.mem_of_getElem? e1)
theorem shr0 (x : Int32) : x >>> ((0 : Int32) &&& 31) = x := by
  rw [show ((0 : Int32) &&& 31) = 0 by decide]
  exact Int32.shiftRight_zero
theorem ch_ii : ∀ x, x < 128 → ((Int32.ofNat x &&& 255).toUInt32 % 65536).toInt32 = Int32.ofNat x ∧ rOK 2 (Int32.ofNat x) = true := by decide +kernel
theorem S133 : ev true 133 0 0 [pR 18 t] [] M X = some (.inl (some (pI (ii (sln t)))), M, X) := by
  rw [q133_0, q53_0, if_neg (by decide), q53_14, if_pos (by decide), kb1, q133_9, shr0, ii_of]
theorem S222 {k : Nat} (hk : k < sln t) : ev true 222 0 0 [pR 18 t, pI (ii k)] [] M X = some (.inl (some (pI (ii (sch t k)))), M, X) := by
  have h1 := sln_le t
  have h2 := ch_ii (sch t k) (sch_lt t k)
  have e1 : (ii (k : Int)).toNatClampNeg = k := by rw [ii_nat (by omega) (by omega)]; omega
  rw [q222_0, q54_0, if_neg (by decide), if_pos rfl, q54_18, if_pos (by decide), kb1, q222_4, if_neg (by decide), q193_0, ii_of, q134_0, q55_0, i_0, ltF (by omega), ltT (by omega), kb1, q134_8, kb0, q193_6, inbT (by omega), e1, h2.1, if_pos h2.2, kb1, q222_15, if_pos h2.2, ii_of]
def wdP (D : Nat → Int) (n b t : Nat) : Prop := tK D n b = 1 ∧ tE D n b = b + sln t ∧ ∀ k, k < sln t → D (b + k) = sch t k
noncomputable def wdB (D : Nat → Int) (n b t : Nat) : Bool := by classical exact decide (wdP D n b t)
theorem wdB_t {b : Nat} : wdB D n b t = true ↔ wdP D n b t := by
  unfold wdB
  exact @decide_eq_true_iff _ (Classical.propDecidable _)
theorem bo_iff {r s : Bool} (h : r = true ↔ s = true) : r = s := by
  cases r
  · cases s
    · rfl
    · exact absurd (h.2 rfl) (by decide)
  · exact (h.1 rfl).symm
theorem S230l {b : Nat} (hb : CB M D n) (h : CTk M D n b) (hl : b + sln t ≤ n) : ∀ (m k : Nat), k + m = sln t → ∃ r, ev true 230 0 28 [pR 2 1, pR 18 t, pI (ii k)] [] M X = some (.inl (some (pI (bI r))), M, X) ∧ (r = true ↔ ∀ j, k ≤ j → j < sln t → D (b + j) = sch t j) := by
  have h500 := hb.1
  have hs := sln_le t
  intro m
  induction m with
  | zero =>
    intro k h1
    exact ⟨true, by rw [q230_28, S133, kb1, q230_33, ltF (by omega), i_1, rk1]; rfl, ⟨fun _ j j1 j2 => by omega, fun _ => rfl⟩⟩
  | succ m ih =>
    intro k h1
    obtain ⟨-, d1, d2⟩ := hb.2.2 (b + k) (by omega)
    have hc := sch_lt t k
    obtain ⟨r, r1, r2⟩ := ih (k + 1) (by omega)
    rw [q230_28, S133, kb1, q230_33, ltT (by omega), h.2.1, ii_add, show ((b : Int) + (k : Int)) = ((b + k : Nat) : Int) by omega, S12b hb (by omega), kb1, q230_49, S222 (by omega), kb1, q230_54, ieq (by omega)]
    by_cases c : D (b + k) = sch t k
    · rw [if_pos c, i_1, ii_add]
      refine ⟨r, r1, r2.trans ⟨fun w j j1 j2 => ?_, fun w j j1 j2 => w j (by omega) j2⟩⟩
      rcases Nat.eq_or_lt_of_le j1 with e | e
      · rw [← e]; exact c
      · exact w j e j2
    · rw [if_neg c, i_0, rk0]
      exact ⟨false, rfl, ⟨fun w => absurd w (by decide), fun w => absurd (w k (Nat.le_refl _) (by omega)) c⟩⟩
theorem S230k {b : Nat} (hb : CB M D n) (h : CTk M D n b) : ev true 230 0 0 [pR 2 1, pR 18 t, p0] [] M X = some (.inl (some (pI (bI (wdB D n b t)))), M, X) := by
  have h500 := hb.1
  have hs := sln_le t
  have hki := tk_in (D := D) (n := n) b
  have hte := te_le (D := D) h.1
  rw [q230_0, h.2.2.2, i_1, ieq (by omega)]
  by_cases c1 : tK D n b = 1
  · rw [if_pos c1, S133, kb1, h.2.2.1, h.2.1, ii_sub, q230_21, ieq (by omega)]
    by_cases c2 : (tE D n b : Int) - b = sln t
    · obtain ⟨r, r1, r2⟩ := S230l (X := X) (t := t) hb h (by omega) (sln t) 0 (by omega)
      have e : r = wdB D n b t := bo_iff (r2.trans ⟨fun w => wdB_t.2 ⟨c1, by omega, fun k hk => w k (by omega) hk⟩, fun w j _ hj => (wdB_t.1 w).2.2 j hj⟩)
      rw [if_pos c2, i_0, ← e]
      exact r1
    · have e : wdB D n b t = false := by
        cases hw : wdB D n b t
        · rfl
        · exact absurd (wdB_t.1 hw).2.1 (by omega)
      rw [if_neg c2, q230_24, i_0, rk0, e]; rfl
  · have e : wdB D n b t = false := by
      cases hw : wdB D n b t
      · rfl
      · exact absurd (wdB_t.1 hw).1 c1
    rw [if_neg c1, q230_24, i_0, rk0, e]; rfl
theorem S230 (h : CTP M D n P) (t : Nat) : ∃ r : Bool, ev true 230 0 0 [pR 2 1, pR 18 t, p0] [] M X = some (.inl (some (pI (bI r))), M, X) ∧ ∀ b, P = .inl b → r = wdB D n b t := by
  obtain ⟨hb, ht⟩ := h
  cases P with
  | inl b => exact ⟨_, S230k hb ht.1, fun b' e => by cases e; rfl⟩
  | inr q =>
    obtain ⟨f, p⟩ := q
    obtain ⟨⟨b, h1⟩, -⟩ := ht
    exact ⟨_, S230k hb h1, fun b' e => by cases e⟩
noncomputable def wrdS (D : Nat → Int) (n t : Nat) : PS → PS
  | .inl b => bif wdB D n b t then .inl (nxD D n b) else .inr (1, b)
  | .inr q => .inr q
theorem S248 (h : CTP M D n P) (t : Nat) : ∃ M', ev true 248 0 0 [pR 2 1, pR 18 t] [] M X = some (.inl none, M', X) ∧ CTP M' D n (wrdS D n t P) ∧ FrC M M' := by
  obtain ⟨r, r1, r2⟩ := S230 (X := X) h t
  obtain ⟨M', a1, a2, a3⟩ := S143 (X := X) h r
  refine ⟨M', by rw [q248_0, r1, kb1, q248_6, a1, kb0, q248_9], ?_, a3⟩
  cases P with
  | inl b =>
    rw [r2 b rfl] at a2
    show CTP M' D n (bif wdB D n b t then .inl (nxD D n b) else .inr (1, b))
    cases hs : wdB D n b t with
    | false => rw [hs] at a2; exact a2
    | true => rw [hs] at a2; exact a2
  | inr q =>
    unfold ifS at a2
    cases r
    · exact a2
    · exact a2
theorem S142 (hb : ∀ i, i < n → M 3 i = ii (D i) ∧ 0 ≤ D i ∧ D i < 256) (hn : n ≤ 500) : ∃ M', ev true 142 0 0 [pR 2 1, pI (ii n)] [] M X = some (.inl none, M', X) ∧ CTP M' D n (.inl (bgT D n 0)) ∧ (∀ b, b ≠ 1 → M' b = M b) ∧ M' 1 1 = ii 0 ∧ M' 1 0 = M 1 0 := by
  obtain ⟨M1, e1⟩ : ∃ M1, M1 = upM (upM (upM (upM (upM M 1 1 0) 1 2 (ii n)) 1 5 0) 1 6 0) 1 7 (-1) := ⟨_, rfl⟩
  have fz : ∀ b, b ≠ 1 → M1 b = M b := fun b h => by rw [e1]; funext y; rw [up_n h, up_n h, up_n h, up_n h, up_n h]
  have hc : CB M1 D n := ⟨hn, by rw [e1, up_d (by decide), up_d (by decide), up_d (by decide), up_s, if_pos rfl], fun i hi => by rw [fz 3 (by decide)]; exact hb i hi⟩
  obtain ⟨M', a1, a2, a3, a4, a5⟩ := S60 (X := X) hc (e := 0) (Nat.zero_le _) (by rw [e1, up_d (by decide), up_d (by decide), up_s, if_pos rfl]; rfl)
  refine ⟨M', by rw [q142_0, ← e1, a1, kb0, q142_29], ⟨hc.fr a3, a2, ?_, ?_⟩, fun b h => (a3.1 b h).trans (fz b h), ?_, ?_⟩
  · rw [a4, e1, up_d (by decide), up_s, if_pos rfl]; rfl
  · rw [a5, e1, up_s, if_pos rfl]; rfl
  · rw [a3.2 1 (by decide), e1, up_d (by decide), up_d (by decide), up_d (by decide), up_d (by decide), up_s, if_pos rfl]; rfl
  · rw [a3.2 0 (by decide), e1, up_d (by decide), up_d (by decide), up_d (by decide), up_d (by decide), up_d (by decide)]
/-- one more, if one more may be -/
def oneS (D : Nat → Int) (n : Nat) (full : Prop) [Decidable full] (P : PS) : PS := nextS D n (if full then failS 4 P else P)
theorem S145 (h : CTP M D n P) (h1 : -1000000 ≤ a ∧ a ≤ 1000000) (h2 : -1000000 ≤ c ∧ c ≤ 1000000) : ∃ M', ev true 145 0 0 [pR 2 1, pI (ii a), pI (ii c)] [] M X = some (.inl none, M', X) ∧ CTP M' D n (oneS D n (c ≤ a) P) ∧ FrC M M' := by
  unfold oneS
  rw [q145_0, ilt (by omega)]
  by_cases k : a < c
  · obtain ⟨M', a1, a2, a3⟩ := S60n (X := X) h
    rw [if_pos k, if_neg (by omega)]
    exact ⟨M', by rw [a1, kb0, q145_18], a2, a3⟩
  · obtain ⟨M', a1, a2, a3⟩ := S5 (X := X) h (c := 4) (by omega)
    rw [if_neg k, if_pos (by omega)]
    refine ⟨M', by rw [i_4, a1, kb1, q145_10, q145_18], ?_, a3⟩
    cases P with
    | inl b => exact a2
    | inr q => exact a2
end NUMS
