/-! questions: pieces, both sides -/
section QCL
set_option maxRecDepth 100000
variable {z y a c lo hi v N x T j o : Int} {M M' M0 M1 M2 : Mem} {X : PX} {n m i p t b b' d k e tk nn nb F : Nat} {D : Nat → Int} {P : PS} {cs w ps : List Int} {q : Int × Nat} {A : AT}
/-- how many 'not' end -/
def neW : List Int → Int
  | [] => 0
  | x :: r => if 3 ≤ stg x then (if x = -19 then 1 else 0) + neW r else 0
theorem neW_in : ∀ w : List Int, 0 ≤ neW w ∧ neW w ≤ w.length
  | [] => ⟨Int.le_refl 0, Int.le_refl 0⟩
  | x :: r => by
    have := neW_in r
    rw [List.length_cons]
    unfold neW
    split
    · split <;> omega
    · omega
theorem S173l : ∀ (w : List Int) (g : Int), WK M (F + 3) w → w.length ≤ 64 → rl (F + 3) = 64 → ∃ z2, ev true 173 0 9 [pR 12 F, pI (ii g), pI (ii ((w.length : Int) - 1))] [] M X = ev true 173 0 59 [pR 12 F, pI (ii (g + neW w)), z2] [] M X
  | [], g, _, _, _ => ⟨pI (ii ((0 : Int) - 1)), by
      show ev true 173 0 9 [pR 12 F, pI (ii g), pI (ii ((0 : Int) - 1))] [] M X = _
      rw [q173_9, i_0, ltT (by omega), show neW [] = 0 from rfl, Int.add_zero]⟩
  | x :: r, g, h, h1, h2 => by
    rw [List.length_cons] at h1
    obtain ⟨k1, k2, k3⟩ := h
    have hs := stg_in x
    have e : (((x :: r).length : Nat) : Int) - 1 = (r.length : Int) := by rw [List.length_cons]; omega
    have n3 : stg (-19) = 3 := by decide
    rw [e, q173_9, i_0, ltF (by omega), S12 (by omega) (by omega), kb1, k1, q173_21, S19 k2, kb1, q173_24, i_m19, S19 (by omega), kb1, q173_29, n3, ilt (by omega)]
    unfold neW
    by_cases c : stg x < 3
    · rw [if_pos c, if_neg (by omega), Int.add_zero]
      exact ⟨_, rfl⟩
    · rw [if_neg c, if_pos (by omega), S12 (by omega) (by omega), kb1, k1, q173_41, i_m19, ieq (by omega)]
      by_cases c2 : x = -19
      · rw [if_pos c2, if_pos c2, i_1, q173_51, ii_add, ii_m1, ii_add]
        obtain ⟨z2, hz⟩ := S173l r (g + 1) k3 (by omega) h2
        exact ⟨z2, by rw [show g + (1 + neW r) = g + 1 + neW r by omega]; exact hz⟩
      · rw [if_neg c2, if_neg c2, i_0, q173_51, ii_add, ii_m1, ii_add]
        obtain ⟨z2, hz⟩ := S173l r (g + 0) k3 (by omega) h2
        exact ⟨z2, by rw [show g + (0 + neW r) = g + 0 + neW r by omega]; exact hz⟩
theorem S173 (h : FV M F cs w) (r3 : rl (F + 3) = 64) (hl : (cs.length : Int) + w.length ≤ rl (F + 7)) : ∃ M', ev true 173 0 0 [pR 12 F, p0, p0] [] M X = some (.inl (some (pI (ii (neW w)))), M', X) ∧ FV M' F (cs ++ setC 3 w) (setW 3 w) ∧ FrF F M M' := by
  obtain ⟨M1, a1, a2, a3⟩ := S103 (X := X) h r3 (k := 3) (by omega) hl
  obtain ⟨z2, hz⟩ := S173l (X := X) w 0 h.2.2.2.2.2 h.2.2.2.1 r3
  have n3 : stg (-19) = 3 := by decide
  exact ⟨M1, by rw [q173_0, i_0, h.2.2.1, i_1, ii_sub, hz, q173_59, i_m19, S19 (by omega), kb1, q173_65, n3, a1, kb0, q173_68, Int.zero_add], a2, a3⟩
/-- k times 'not' -/
abbrev rp (k : Nat) : List Int := List.replicate k (-19)
theorem topL_le {q1 q2 : Int} (h : topL w q1) (h2 : q1 ≤ q2) : topL w q2 := fun x t e => by have := h x t e; omega
theorem ne_rp (h : topL w 3) : ∀ k : Nat, neW (rp k ++ w) = k
  | 0 => by
    cases w with
    | nil => rfl
    | cons x r =>
      have := h x r rfl
      show (if 3 ≤ stg x then _ else (0 : Int)) = 0
      rw [if_neg (by omega)]
  | k + 1 => by
    have := ne_rp h k
    show (if 3 ≤ stg (-19) then (if (-19 : Int) = -19 then 1 else 0) + neW (rp k ++ w) else (0 : Int)) = _
    rw [if_pos (by decide), if_pos rfl, this]
    omega
theorem set_rp (h : topL w 3) (k : Nat) : setC 3 (rp k ++ w) = rp k ∧ setW 3 (rp k ++ w) = w :=
  set_ap (fun x hx => by rw [List.eq_of_mem_replicate hx]; decide) h
theorem rp_top (h : topL w 3) : topL (rp k ++ w) 4 := by
  cases k with
  | zero => exact topL_le h (by omega)
  | succ k => exact fun x t e => by cases e; decide
theorem set_nil (h : topL w z) : setC z w = [] ∧ setW z w = w := by
  have := set_ap (ps := []) (w := w) (k := z) (fun x hx => absurd hx List.not_mem_nil) h
  exact this
/-- a value's word -/
noncomputable def qaI (D : Nat → Int) (n b : Nat) : Int := if wdB D n b 12 = true then 0 else if wdB D n b 21 = true then 1 else if wdB D n b 6 = true then 2 else if wdB D n b 15 = true then 3 else if wdB D n b 13 = true then 4 else if wdB D n b 7 = true then 5 else if wdB D n b 4 = true then 6 else if wdB D n b 17 = true then 7 else -1
theorem qa_le (D : Nat → Int) (n b : Nat) : -1 ≤ qaI D n b ∧ qaI D n b ≤ 7 := by
  unfold qaI
  repeat' split
  all_goals omega
theorem qa_wd (h : qaI D n b ≠ -1) : tK D n b = 1 := by
  have key : ∀ t, wdB D n b t = true → tK D n b = 1 := fun t ht => (wdB_t.1 ht).1
  unfold qaI at h
  by_cases c1 : wdB D n b 12 = true
  · exact key _ c1
  · rw [if_neg c1] at h
    by_cases c2 : wdB D n b 21 = true
    · exact key _ c2
    · rw [if_neg c2] at h
      by_cases c3 : wdB D n b 6 = true
      · exact key _ c3
      · rw [if_neg c3] at h
        by_cases c4 : wdB D n b 15 = true
        · exact key _ c4
        · rw [if_neg c4] at h
          by_cases c5 : wdB D n b 13 = true
          · exact key _ c5
          · rw [if_neg c5] at h
            by_cases c6 : wdB D n b 7 = true
            · exact key _ c6
            · rw [if_neg c6] at h
              by_cases c7 : wdB D n b 4 = true
              · exact key _ c7
              · rw [if_neg c7] at h
                by_cases c8 : wdB D n b 17 = true
                · exact key _ c8
                · rw [if_neg c8] at h
                  exact absurd rfl h
theorem S250 (hb : CB M D n) (h : CTk M D n b) : ev true 250 0 0 [pR 2 1] [] M X = some (.inl (some (pI (ii (qaI D n b)))), M, X) := by
  unfold qaI
  rw [q250_0, S230k hb h, kb1, q250_6, i_0, bIT]
  cases c1 : wdB D n b 12 with
  | true => rw [cond_true, if_pos rfl]
  | false =>
  rw [cond_false, if_neg Bool.false_ne_true, S230k hb h, kb1, q250_17, i_0, bIT]
  cases c2 : wdB D n b 21 with
  | true => rw [cond_true, if_pos rfl, i_1]
  | false =>
  rw [cond_false, if_neg Bool.false_ne_true, S230k hb h, kb1, q250_28, i_0, bIT]
  cases c3 : wdB D n b 6 with
  | true => rw [cond_true, if_pos rfl, i_2]
  | false =>
  rw [cond_false, if_neg Bool.false_ne_true, S230k hb h, kb1, q250_39, i_0, bIT]
  cases c4 : wdB D n b 15 with
  | true => rw [cond_true, if_pos rfl, i_3]
  | false =>
  rw [cond_false, if_neg Bool.false_ne_true, S230k hb h, kb1, q250_50, i_0, bIT]
  cases c5 : wdB D n b 13 with
  | true => rw [cond_true, if_pos rfl, i_4]
  | false =>
  rw [cond_false, if_neg Bool.false_ne_true, S230k hb h, kb1, q250_61, i_0, bIT]
  cases c6 : wdB D n b 7 with
  | true => rw [cond_true, if_pos rfl, i_5]
  | false =>
  rw [cond_false, if_neg Bool.false_ne_true, S230k hb h, kb1, q250_72, i_0, bIT]
  cases c7 : wdB D n b 4 with
  | true => rw [cond_true, if_pos rfl, i_6]
  | false =>
  rw [cond_false, if_neg Bool.false_ne_true, S230k hb h, kb1, q250_84, i_0, bIT]
  cases c8 : wdB D n b 17 with
  | true => rw [cond_true, if_pos rfl, i_7, q250_93]
  | false => rw [cond_false, if_neg Bool.false_ne_true, ii_m1, q250_93]
noncomputable def vlS (D : Nat → Int) (n : Nat) : PS → PS
  | .inl b => if qaI D n b = -1 then numS D n 0 9999 (.inl b) else .inl (nxD D n b)
  | .inr q => .inr q
theorem vlS_l : vlS D n (.inl b) = if qaI D n b = -1 then numS D n 0 9999 (.inl b) else .inl (nxD D n b) := rfl
noncomputable def qcC (D : Nat → Int) (n b : Nat) : Int := if qaI D n b = -1 then nuV D n b else -1 - qaI D n b
def FrK (M M' : Mem) : Prop := (∀ b, b ≠ 1 → b ≠ 39 → b ≠ 40 → b ≠ 44 → b ≠ 48 → M' b = M b) ∧ (∀ k, k < 3 → M' 1 k = M 1 k) ∧ (∀ k, k ≠ 2 → k ≠ 4 → M' 40 k = M 40 k) ∧ ∀ k, k ≠ 2 → k ≠ 3 → M' 39 k = M 39 k
theorem FrK.rf : FrK M M := ⟨fun _ _ _ _ _ _ => rfl, fun _ _ => rfl, fun _ _ _ => rfl, fun _ _ _ => rfl⟩
theorem FrK.tr {M1 M2 M3 : Mem} (h1 : FrK M1 M2) (h2 : FrK M2 M3) : FrK M1 M3 := ⟨fun b a1 a2 a3 a4 a5 => (h2.1 b a1 a2 a3 a4 a5).trans (h1.1 b a1 a2 a3 a4 a5), fun k h => (h2.2.1 k h).trans (h1.2.1 k h), fun k a1 a2 => (h2.2.2.1 k a1 a2).trans (h1.2.2.1 k a1 a2), fun k a1 a2 => (h2.2.2.2 k a1 a2).trans (h1.2.2.2 k a1 a2)⟩
theorem FrC.K (h : FrC M M') : FrK M M' := ⟨fun b a1 _ _ _ _ => h.1 b a1, h.2, fun k _ _ => by rw [h.1 40 (by decide)], fun k _ _ => by rw [h.1 39 (by decide)]⟩
theorem FrF.K (h : FrF 40 M M') : FrK M M' := ⟨fun b _ _ a3 a4 a5 => h.1 b a3 a4 a5, fun k _ => by rw [h.1 1 (by decide) (by decide) (by decide)], fun k a1 a2 => h.2 k a1 a2, fun k _ _ => by rw [h.1 39 (by decide) (by decide) (by decide)]⟩
theorem FrK.up {g : Nat} {v : Int32} (h : g = 2 ∨ g = 3) : FrK M (upM M 39 g v) := ⟨fun b _ a2 _ _ _ => by funext y; exact up_n a2, fun k _ => up_n (by decide), fun k _ _ => up_n (by decide), fun k a1 a2 => up_d (by omega)⟩
theorem CTP.K (h : CTP M D n P) (hf : FrF 40 M M') : CTP M' D n P := h.kp (hf.1 1 (by decide) (by decide) (by decide)) (hf.1 3 (by decide) (by decide) (by decide))
theorem CTP.u39 {g : Nat} {v : Int32} (h : CTP M D n P) : CTP (upM M 39 g v) D n P := h.kp (by funext y; exact up_n (by decide)) (by funext y; exact up_n (by decide))
theorem FV.C4 (h : FV M 40 cs w) (hf : FrC M M') : FV M' 40 cs w := h.at (hf.1 40 (by decide)) (hf.1 44 (by decide)) (hf.1 48 (by decide))
theorem FV.u39 {g : Nat} {v : Int32} (h : FV M 40 cs w) : FV (upM M 39 g v) 40 cs w := h.at (by funext y; exact up_n (by decide)) (by funext y; exact up_n (by decide)) (by funext y; exact up_n (by decide))
theorem r43 : rl (40 + 3) = 64 := by unfold rl; rw [show ln (40 + 3 + 1) = 64 by decide +kernel]; rfl
theorem r47 : rl (40 + 7) = 200 := by unfold rl; rw [show ln (40 + 7 + 1) = 200 by decide +kernel]; rfl
theorem ctk_of (h : CTP M D n P) : ∃ b, CTk M D n b ∧ ∀ b', P = .inl b' → b' = b := by
  cases P with
  | inl b => exact ⟨b, h.2.1, fun b' e => by cases e; rfl⟩
  | inr q => obtain ⟨f, p⟩ := q; obtain ⟨b, hb⟩ := h.2.1; exact ⟨b, hb, fun b' e => by cases e⟩
/-- a number, behind a fault -/
theorem S144q {q : Int × Nat} (h : CTP M D n (.inr q)) (hl : -2147483648 ≤ lo ∧ lo < 2147483648) (hh : -2147483648 ≤ hi ∧ hi < 2147483648) : ∃ M' v, ev true 144 0 0 [pR 2 1, pI (ii lo), pI (ii hi), p0] [] M X = some (.inl (some (pI (ii v))), M', X) ∧ CTP M' D n (.inr q) ∧ FrC M M' ∧ (v = 0 ∨ (lo ≤ v ∧ v ≤ hi)) := by
  obtain ⟨f, p⟩ := q
  obtain ⟨b, hk⟩ := h.2.1
  have hki := tk_in (D := D) (n := n) b
  rw [q144_0, hk.2.2.2, i_2, ieq (by omega)]
  by_cases c1 : tK D n b = 2
  · have hv := nuV_in c1
    rw [if_pos c1, S61 h.1 hk c1, kb1, q144_18, ilt (by omega), ilt (by omega)]
    have bad : ∃ M' v, ev true 144 0 29 [pR 2 1, pI (ii lo), pI (ii hi), pI (ii (nuV D n b))] [] M X = some (.inl (some (pI (ii v))), M', X) ∧ CTP M' D n (.inr (f, p)) ∧ FrC M M' ∧ (v = 0 ∨ (lo ≤ v ∧ v ≤ hi)) := by
      obtain ⟨M', a1, a2, a3⟩ := S5 (X := X) h (c := 2) (by omega)
      exact ⟨M', 0, by rw [q144_29, i_2, a1, kb1, q144_34], a2, a3, Or.inl rfl⟩
    by_cases c2 : nuV D n b < lo
    · rw [if_pos c2]; exact bad
    · rw [if_neg c2]
      by_cases c3 : hi < nuV D n b
      · rw [if_pos c3]; exact bad
      · rw [if_neg c3]
        have h6 := h.2.2.1
        have h7 := h.2.2.2.1
        exact ⟨M, nuV D n b, by rw [h6, i_0, eqF (by omega), q144_46], h, FrC.rf, Or.inr ⟨by omega, by omega⟩⟩
  · obtain ⟨M', a1, a2, a3⟩ := S5 (X := X) h (c := 1) (by omega)
    exact ⟨M', 0, by rw [if_neg c1, i_1, a1, kb1, q144_13], a2, a3, Or.inl rfl⟩
/-- a value is read: the class -/
theorem S266 (h : CTP M D n P) (hf : FV M 40 cs w) (hl : cs.length < 200) : ∃ M' g, ev true 266 0 0 [pR 4 39, pR 2 1, p0] [] M X = some (.inl none, M', X) ∧ CTP M' D n (vlS D n P) ∧ FV M' 40 (cs ++ [g]) w ∧ FrK M M' ∧ (∀ b, P = .inl b → iF (vlS D n P) → g = qcC D n b) ∧ M' 39 = M 39 := by
  obtain ⟨b, hk, hp⟩ := ctk_of h
  have hq := qa_le D n b
  have r7 := r47
  rw [q266_0, S250 h.1 hk, kb1, q266_4, ii_m1, ieq (by omega)]
  by_cases k : qaI D n b = -1
  · rw [if_pos k, i_0, i_9999]
    have num : ∃ M1 v, ev true 144 0 0 [pR 2 1, pI (ii 0), pI (ii 9999), p0] [] M X = some (.inl (some (pI (ii v))), M1, X) ∧ CTP M1 D n (vlS D n P) ∧ FrC M M1 ∧ (0 ≤ v ∧ v ≤ 9999) ∧ (∀ b, P = .inl b → iF (vlS D n P) → v = qcC D n b) := by
      cases P with
      | inl b1 =>
        have e := hp b1 rfl
        subst e
        obtain ⟨M1, v, a1, a2, a3, a4, a5, a6⟩ := S144 (X := X) h (lo := 0) (hi := 9999) (by omega) (by omega)
        have hv : 0 ≤ v ∧ v ≤ 9999 := by rcases a6 ⟨b1, rfl⟩ with e | e <;> omega
        have e2 : vlS D n (.inl b1) = numS D n 0 9999 (.inl b1) := by rw [vlS_l, if_pos k]
        rw [e2]
        refine ⟨M1, v, a1, a2, a3, hv, fun b2 hb2 w => ?_⟩
        cases hb2
        unfold qcC
        rw [if_pos k]
        exact (a5 w).1
      | inr q =>
        obtain ⟨M1, v, a1, a2, a3, a4⟩ := S144q (X := X) h (lo := 0) (hi := 9999) (by omega) (by omega)
        exact ⟨M1, v, a1, a2, a3, by omega, fun b2 hb2 => by cases hb2⟩
    obtain ⟨M1, v, a1, a2, a3, a4, a5⟩ := num
    obtain ⟨M2, b1, b2, b3⟩ := S101 (X := X) (hf.C4 a3) (c := v) (by omega) (by omega)
    exact ⟨M2, v, by rw [a1, kb1, q266_22, b1, kb0, q266_25, q266_40], a2.K b3, b2, a3.K.tr b3.K, a5, by rw [b3.1 39 (by decide) (by decide) (by decide), a3.1 39 (by decide)]⟩
  · rw [if_neg k]
    obtain ⟨M1, b1, b2, b3⟩ := S102 (X := X) hf (c := qaI D n b) (by omega) (by omega)
    obtain ⟨M2, a1, a2, a3⟩ := S60n (X := X) (h.K b3)
    have e2 : nextS D n P = vlS D n P := by
      cases P with
      | inl b1 =>
        have e := hp b1 rfl
        subst e
        rw [vlS_l, if_neg k]; rfl
      | inr q => rfl
    rw [e2] at a2
    refine ⟨M2, -1 - qaI D n b, by rw [b1, kb0, q266_36, a1, kb0, q266_40], a2, b2.C4 a3, b3.K.tr a3.K, fun b2 hb2 w => ?_, by rw [a3.1 39 (by decide), b3.1 39 (by decide) (by decide) (by decide)]⟩
    have e := hp b2 hb2
    subst e
    unfold qcC
    rw [if_neg k]
def cmC (D : Nat → Int) (n b : Nat) : Int := if sgB D n b 60 = true then -14 else if sgB D n b 61 = true then -15 else if sgB D n b 62 = true then -16 else 0
theorem S150 (hb : CB M D n) (h : CTk M D n b) : ev true 150 0 0 [pR 2 1] [] M X = some (.inl (some (pI (ii (cmC D n b)))), M, X) := by
  unfold cmC
  rw [q150_0, i_60, S62k hb h (by omega), kb1, q150_6, i_0, bIT]
  cases c1 : sgB D n b 60 with
  | true => rw [cond_true, if_pos rfl, i_m14]
  | false =>
  rw [cond_false, if_neg Bool.false_ne_true, i_61, S62k hb h (by omega), kb1, q150_18, i_0, bIT]
  cases c2 : sgB D n b 61 with
  | true => rw [cond_true, if_pos rfl, i_m15]
  | false =>
  rw [cond_false, if_neg Bool.false_ne_true, i_62, S62k hb h (by omega), kb1, q150_30, i_0, bIT]
  cases c3 : sgB D n b 62 with
  | true => rw [cond_true, if_pos rfl, i_m16, q150_39]
  | false => rw [cond_false, if_neg Bool.false_ne_true, q150_39]
theorem cm_in (D : Nat → Int) (n b : Nat) : cmC D n b = 0 ∨ ((cmC D n b = -14 ∧ sgB D n b 60 = true) ∨ (cmC D n b = -15 ∧ sgB D n b 61 = true) ∨ (cmC D n b = -16 ∧ sgB D n b 62 = true)) := by
  unfold cmC
  cases c1 : sgB D n b 60 with
  | true => exact Or.inr (Or.inl ⟨rfl, rfl⟩)
  | false =>
  cases c2 : sgB D n b 61 with
  | true => exact Or.inr (Or.inr (Or.inl ⟨rfl, rfl⟩))
  | false =>
  cases c3 : sgB D n b 62 with
  | true => exact Or.inr (Or.inr (Or.inr ⟨rfl, rfl⟩))
  | false => exact Or.inl rfl
theorem cm_stg (h : cmC D n b ≠ 0) : stg (cmC D n b) = 4 ∧ cmC D n b ≠ -19 ∧ -16 ≤ cmC D n b ∧ cmC D n b ≤ -14 := by
  rcases cm_in D n b with e | e | e | e
  · exact absurd e h
  · rw [e.1]; decide
  · rw [e.1]; decide
  · rw [e.1]; decide
/-- what a comparison leaves -/
noncomputable def fcS (D : Nat → Int) (n b : Nat) : PS := match vlS D n (.inl b) with
  | .inr q => .inr q
  | .inl b1 => if cmC D n b1 = 0 then .inr (1, b1) else vlS D n (.inl (nxD D n b1))
/-- the class reads a comparison -/
theorem S275c (h : CTP M D n (.inl b)) (hn : wdB D n b 10 = false) (ho : sgB D n b 123 = false) (hf : FV M 40 cs w) (ht : topL w 4) (hl : cs.length + w.length ≤ 196) (hw : w.length < 64) (h3 : M 39 3 = ii nn) : ∃ M' r, ev true 275 0 0 [pR 4 39, pR 2 1, p0, p0] [] M X = some (.inl (some (pI (bI r))), M', X) ∧ CTP M' D n (fcS D n b) ∧ FrK M M' ∧ M' 39 2 = M 39 2 ∧ (∃ cs' w', FV M' 40 cs' w' ∧ cs'.length + w'.length ≤ 199) ∧ (iF (fcS D n b) → ∃ b1 o, vlS D n (.inl b) = .inl b1 ∧ o = cmC D n b1 ∧ o ≠ 0 ∧ r = true ∧ FV M' 40 (cs ++ [qcC D n b, qcC D n (nxD D n b1)] ++ setC 3 (o :: w)) (setW 3 (o :: w)) ∧ M' 39 3 = ii (nn - neW (o :: w))) := by
  have r7 := r47
  have pre : ev true 275 0 0 [pR 4 39, pR 2 1, p0, p0] [] M X = (ev true 266 0 0 [pR 4 39, pR 2 1, p0] [] M X).bind (kRet true false 275 0 0 33 (ev true 275 0) [pR 4 39, pR 2 1, pI (bI false), p0] [] X) := by
    rw [q275_0, S230k h.1 h.2.1, kb1, q275_6, i_0, bIT, hn, cond_false, i_123, S62k h.1 h.2.1 (by omega), kb1, q275_17, i_0, bIT, ho, cond_false]
  obtain ⟨M1, g1, a1, a2, a3, a4, a5, a6⟩ := S266 (X := X) h hf (by omega)
  obtain ⟨b1, hk1, hp1⟩ := ctk_of a2
  have hc := cm_in D n b1
  rw [pre, a1, kb0, q275_33, S150 a2.1 hk1, kb1, q275_37, i_0, ieq (by omega)]
  by_cases c0 : cmC D n b1 = 0
  · obtain ⟨M2, e1, e2, e3⟩ := S5 (X := X) a2 (c := 1) (by omega)
    have eF : fcS D n b = failS 1 (vlS D n (.inl b)) := by
      unfold fcS
      cases hv : vlS D n (.inl b) with
      | inr q => rfl
      | inl b2 =>
        have := hp1 b2 hv
        subst this
        show (if cmC D n b2 = 0 then _ else _) = _
        rw [if_pos c0]; rfl
    rw [if_pos c0, i_1, e1, kb1, q275_47, i_0, rk0, eF]
    refine ⟨M2, false, rfl, e2, a4.tr e3.K, by rw [e3.1 39 (by decide), a6], ⟨cs ++ [g1], w, a3.C4 e3, by rw [len1]; omega⟩, fun wf => ?_⟩
    exfalso
    cases hv : vlS D n (.inl b) with
    | inr q => rw [hv] at wf; exact niF wf
    | inl b2 => rw [hv] at wf; exact niF wf
  · obtain ⟨s4, s19, slo, shi⟩ := cm_stg c0
    obtain ⟨t1, t2⟩ := set_nil ht
    obtain ⟨M2, e1, e2, e3⟩ := S60n (X := X) a2
    obtain ⟨M3, f1, f2, f3⟩ := S170 (X := X) (a3.C4 e3) r43 (c := cmC D n b1) (by omega) (by rw [r47, len1]; omega) (by rw [s4, t2]; exact hw)
    rw [s4, t1, t2, List.append_nil] at f2
    obtain ⟨M4, g2, j1, j2, j3, j4, j5, j6⟩ := S266 (X := X) (e2.K f3) f2 (by rw [len1]; omega)
    obtain ⟨M5, k1, k2, k3⟩ := S173 (X := X) j3 r43 (by rw [r47, len1, len1, List.length_cons]; omega)
    have hne := neW_in (cmC D n b1 :: w)
    rw [List.length_cons] at hne
    have m39 : M4 39 = M 39 := by rw [j6, f3.1 39 (by decide) (by decide) (by decide), e3.1 39 (by decide), a6]
    have m5 : M5 39 = M 39 := by rw [k3.1 39 (by decide) (by decide) (by decide), m39]
    have eF : fcS D n b = vlS D n (nextS D n (vlS D n (.inl b))) := by
      unfold fcS
      cases hv : vlS D n (.inl b) with
      | inr q => rfl
      | inl b2 =>
        have := hp1 b2 hv
        subst this
        show (if cmC D n b2 = 0 then _ else _) = _
        rw [if_neg c0]; rfl
    have fr : FrK M M5 := a4.tr (e3.K.tr (f3.K.tr (j4.tr k3.K)))
    have hsl := set_le (k := 3) (cmC D n b1 :: w)
    rw [List.length_cons] at hsl
    rw [if_neg c0, e1, kb0, q275_54, f1, kb0, q275_62, j1, kb0, q275_67, m39, h3, k1, kb1, q275_79, i_1, rk1, ii_sub, eF]
    refine ⟨upM M5 39 3 (ii ((nn : Int) - neW (cmC D n b1 :: w))), true, rfl, (j2.K k3).u39, fr.tr (FrK.up (Or.inr rfl)), by rw [up_d (by decide), m5], ⟨_, _, k2.u39, by rw [List.length_append, len1, len1]; omega⟩, fun wf => ?_⟩
    cases hv : vlS D n (.inl b) with
    | inr q => rw [hv] at wf; exact niF wf
    | inl b2 =>
      have e9 := hp1 b2 hv
      subst e9
      rw [hv] at wf
      have hg1 : g1 = qcC D n b := a5 b rfl (by rw [hv]; exact ⟨b2, rfl⟩)
      have hg2 : g2 = qcC D n (nxD D n b2) := j5 (nxD D n b2) (by rw [hv]; rfl) (by rw [hv]; exact wf)
      refine ⟨b2, cmC D n b2, rfl, rfl, c0, rfl, ?_, by rw [up_s, if_pos rfl]⟩
      rw [hg1, hg2] at k2
      have k2 := k2.u39 (g := 3) (v := ii ((nn : Int) - neW (cmC D n b2 :: w)))
      rw [List.append_assoc cs [qcC D n b] [qcC D n (nxD D n b2)]] at k2
      exact k2
end QCL
