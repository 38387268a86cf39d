/-! how a formula is laid: waiting operators and code -/
section FML
set_option maxRecDepth 100000
variable {z y a b c d f lo hi v N k : Int} {M M' M0 M1 M2 : Mem} {X : PX} {n m i e p t F : Nat} {cs w ps : List Int}
def stg (x : Int) : Int := if x = -20 then 0 else if x = -19 then 3 else if x = -18 then 1 else if x = -17 then 2 else if x = -13 then 2 else if x = -12 then 1 else if x = -11 then 1 else 4
theorem S19 (h : -100 ≤ a ∧ a < 100000) : ev true 19 0 0 [pI (ii a)] [] M X = some (.inl (some (pI (ii (stg a)))), M, X) := by
  unfold stg
  rw [q19_0, i_m20, i_m19, i_m18, i_m17, i_m16, i_m15, i_m14, i_m13, i_m12, i_m11, i_0, i_1, i_2, i_3, i_4, ieq (by omega), ieq (by omega), ieq (by omega), ieq (by omega), ieq (by omega), ieq (by omega), ieq (by omega), ieq (by omega), ieq (by omega), ieq (by omega)]
  by_cases c1 : a = -20
  · rw [if_pos c1, if_pos c1]
  rw [if_neg c1, if_neg c1]
  by_cases c2 : a = -19
  · rw [if_pos c2, if_pos c2]
  rw [if_neg c2, if_neg c2]
  by_cases c3 : a = -18
  · rw [if_pos c3, if_pos c3]
  rw [if_neg c3, if_neg c3]
  by_cases c4 : a = -17
  · rw [if_pos c4, if_pos c4]
  rw [if_neg c4, if_neg c4]
  by_cases c5 : a = -16
  · rw [if_pos c5, if_neg (by omega), if_neg (by omega), if_neg (by omega)]
  rw [if_neg c5]
  by_cases c6 : a = -15
  · rw [if_pos c6, if_neg (by omega), if_neg (by omega), if_neg (by omega)]
  rw [if_neg c6]
  by_cases c7 : a = -14
  · rw [if_pos c7, if_neg (by omega), if_neg (by omega), if_neg (by omega)]
  rw [if_neg c7]
  by_cases c8 : a = -13
  · rw [if_pos c8, if_pos c8]
  rw [if_neg c8, if_neg c8]
  by_cases c9 : a = -12
  · rw [if_pos c9, if_pos c9]
  rw [if_neg c9, if_neg c9]
  by_cases c10 : a = -11
  · rw [if_pos c10, if_pos c10]
  rw [if_neg c10, if_neg c10]
def WK (M : Mem) (t : Nat) : List Int → Prop
  | [] => True
  | x :: r => cl M t r.length = ii x ∧ (-100 ≤ x ∧ x < 100000) ∧ WK M t r
theorem WK_k {v : Int32} (hz : 0 ≤ z) : ∀ {w : List Int}, (w.length : Int) ≤ z → WK M t w → WK (sc M t z v) t w
  | [], _, _ => trivial
  | a :: r, h, hs => by
    have h' : (r.length : Int) + 1 ≤ z := by rw [List.length_cons] at h; omega
    exact ⟨by rw [cl_sc hz (by omega), if_neg (by omega)]; exact hs.1, hs.2.1, WK_k hz (by omega) hs.2.2⟩
theorem WK_at (h1 : M' (t + 1) = M (t + 1)) : ∀ {w : List Int}, WK M t w → WK M' t w
  | [], _ => trivial
  | _ :: _, h => ⟨by rw [cl_at h1]; exact h.1, h.2.1, WK_at h1 h.2.2⟩
theorem CD_sn {v : Int32} : ∀ {cs : List Int} {i : Int}, 0 ≤ i → CD M t i cs → (-100 ≤ c ∧ c < 100000) → v = ii c → CD (sc M t (i + cs.length) v) t i (cs ++ [c])
  | [], i, h0, _, h2, h3 => ⟨by rw [cl_sc (by simp; omega) h0, if_pos (by simp)]; exact h3, h2, trivial⟩
  | a :: r, i, h0, h1, h2, h3 => by
    have hh := CD_sn (cs := r) (i := i + 1) (by omega) h1.2.2 h2 h3
    have e : i + ((a :: r).length : Int) = i + 1 + r.length := by rw [List.length_cons]; omega
    rw [e]
    exact ⟨by rw [cl_sc (by omega) h0, if_neg (by omega)]; exact h1.1, h1.2.1, hh⟩
/-- a formula being laid -/
def FV (M : Mem) (F : Nat) (cs w : List Int) : Prop := M F 2 = ii cs.length ∧ (cs.length : Int) ≤ rl (F + 7) ∧ M F 4 = ii w.length ∧ w.length ≤ 64 ∧ CD M (F + 7) 0 cs ∧ WK M (F + 3) w
def FrF (F : Nat) (M M' : Mem) : Prop := (∀ b, b ≠ F → b ≠ F + 4 → b ≠ F + 8 → M' b = M b) ∧ ∀ k, k ≠ 2 → k ≠ 4 → M' F k = M F k
theorem FrF.rf : FrF F M M := ⟨fun _ _ _ _ => rfl, fun _ _ _ => rfl⟩
theorem FrF.tr {M1 M2 M3 : Mem} (h1 : FrF F M1 M2) (h2 : FrF F M2 M3) : FrF F M1 M3 := ⟨fun b a1 a2 a3 => (h2.1 b a1 a2 a3).trans (h1.1 b a1 a2 a3), fun k a1 a2 => (h2.2 k a1 a2).trans (h1.2 k a1 a2)⟩
theorem FV.at (h : FV M F cs w) (h1 : M' F = M F) (h2 : M' (F + 4) = M (F + 4)) (h3 : M' (F + 8) = M (F + 8)) : FV M' F cs w := by
  obtain ⟨a1, a2, a3, a4, a5, a6⟩ := h
  exact ⟨by rw [h1]; exact a1, a2, by rw [h1]; exact a3, a4, CD_k h3 a5, WK_at h2 a6⟩
theorem rl_500 (t : Nat) : rl t < 300000 := (rl_lt t).2
theorem S18 : ∃ M', ev true 18 0 0 [pR 12 F] [] M X = some (.inl none, M', X) ∧ FV M' F [] [] ∧ FrF F M M' := by
  have h := (rl_lt (F + 7)).1
  refine ⟨_, q18_0 F M X, ⟨?_, by simpa using h, ?_, by simp, trivial, trivial⟩, fun b h1 h2 h3 => ?_, fun k h1 h2 => ?_⟩
  · rw [up_d (by decide), up_s, if_pos rfl]; rfl
  · rw [up_s, if_pos rfl]; rfl
  · funext y; rw [up_n h1, up_n h1]
  · rw [up_d h2, up_d h1]
/-- a code more -/
theorem add_v {v : Int32} (h : FV M F cs w) (hl : (cs.length : Int) < rl (F + 7)) (hc : -100 ≤ c ∧ c < 100000) (hv : v = ii c) : FV (upM (sc M (F + 7) cs.length v) F 2 (ii (cs.length + 1))) F (cs ++ [c]) w ∧ FrF F M (upM (sc M (F + 7) cs.length v) F 2 (ii (cs.length + 1))) := by
  obtain ⟨a1, a2, a3, a4, a5, a6⟩ := h
  have e8 : F + 7 + 1 = F + 8 := rfl
  refine ⟨⟨?_, ?_, ?_, a4, ?_, ?_⟩, fun b b1 b2 b3 => ?_, fun k k1 k2 => ?_⟩
  · rw [up_s, if_pos rfl, List.length_append]; rfl
  · rw [List.length_append]; show ((cs.length + 1 : Nat) : Int) ≤ _; omega
  · rw [up_d (by decide), sc_n (by omega)]; exact a3
  · have hh := CD_sn (M := M) (t := F + 7) (i := 0) (by omega) a5 hc hv
    rw [Int.zero_add] at hh
    exact CD_k (by funext y; exact up_n (by omega)) hh
  · exact WK_at (by funext y; rw [up_n (by omega)]; exact sc_n (by omega)) a6
  · funext y; rw [up_n b1]; exact sc_n b3
  · rw [up_d k1]; exact sc_n (by omega)
theorem S101 (h : FV M F cs w) (hl : (cs.length : Int) < rl (F + 7)) (hc : -100 ≤ c ∧ c < 100000) : ∃ M', ev true 101 0 0 [pR 12 F, pI (ii c)] [] M X = some (.inl none, M', X) ∧ FV M' F (cs ++ [c]) w ∧ FrF F M M' := by
  have hr := rl_500 (F + 7)
  obtain ⟨b1, b2⟩ := add_v h hl hc rfl
  refine ⟨_, ?_, b1, b2⟩
  rw [q101_0, h.1, S11 (by omega) hl, kb0, q101_12, sc_n (by omega), h.1, i_1, ii_add]
theorem S102 (h : FV M F cs w) (hl : (cs.length : Int) < rl (F + 7)) (hc : -99000 ≤ c ∧ c < 99) : ∃ M', ev true 102 0 0 [pR 12 F, pI (ii c)] [] M X = some (.inl none, M', X) ∧ FV M' F (cs ++ [-1 - c]) w ∧ FrF F M M' := by
  have hr := rl_500 (F + 7)
  obtain ⟨b1, b2⟩ := add_v (c := -1 - c) h hl (by omega) rfl
  refine ⟨_, ?_, b1, b2⟩
  rw [q102_0, h.1, ii_m1, ii_sub, S11 (by omega) hl, kb0, q102_14, sc_n (by omega), h.1, i_1, ii_add]
theorem S100 (h : FV M F cs w) (r3 : rl (F + 3) = 64) (hl : w.length < 64) (hc : -100 ≤ c ∧ c < 100000) : ∃ M', ev true 100 0 0 [pR 12 F, pI (ii c)] [] M X = some (.inl none, M', X) ∧ FV M' F cs (c :: w) ∧ FrF F M M' := by
  obtain ⟨a1, a2, a3, a4, a5, a6⟩ := h
  refine ⟨upM (sc M (F + 3) w.length (ii c)) F 4 (ii (w.length + 1)), ?_, ⟨?_, a2, ?_, ?_, ?_, ?_⟩, fun b b1 b2 b3 => ?_, fun k k1 k2 => ?_⟩
  · rw [q100_0, a3, S11 (by omega) (by omega), kb0, q100_12, sc_n (by omega), a3, i_1, ii_add]
  · rw [up_d (by decide), sc_n (by omega)]; exact a1
  · rw [up_s, if_pos rfl, List.length_cons]; rfl
  · rw [List.length_cons]; omega
  · exact CD_k (by funext y; rw [up_n (by omega)]; exact sc_n (by omega)) a5
  · refine ⟨?_, hc, ?_⟩
    · rw [cl_at (M := sc M (F + 3) w.length (ii c)) (by funext y; exact up_n (by omega)), cl_sc (by omega) (by omega), if_pos rfl]
    · exact WK_at (M := sc M (F + 3) w.length (ii c)) (by funext y; exact up_n (by omega)) (WK_k (by omega) (Int.le_refl _) a6)
  · funext y; rw [up_n b1]; exact sc_n b2
  · rw [up_d k2]; exact sc_n (by omega)
/-- what settles: those of strength k and more go over -/
def setC (k : Int) : List Int → List Int
  | [] => []
  | x :: r => if k ≤ stg x then x :: setC k r else []
def setW (k : Int) : List Int → List Int
  | [] => []
  | x :: r => if k ≤ stg x then setW k r else x :: r
theorem stg_in (x : Int) : 0 ≤ stg x ∧ stg x ≤ 4 := by
  unfold stg
  repeat' split
  all_goals omega
theorem set_le : ∀ (w : List Int), (setC k w).length + (setW k w).length = w.length
  | [] => rfl
  | x :: r => by
    unfold setC setW
    by_cases c : k ≤ stg x
    · rw [if_pos c, if_pos c, List.length_cons, List.length_cons]; have := set_le r; omega
    · rw [if_neg c, if_neg c]; exact Nat.zero_add _
theorem S103l (r3 : rl (F + 3) = 64) (hk : 0 ≤ k ∧ k ≤ 4) : ∀ (w cs : List Int) (x : Int) (M : Mem), FV M F cs (x :: w) → (cs.length : Int) + w.length + 1 ≤ rl (F + 7) → ∃ M', ev true 103 0 20 [pR 12 F, pI (ii k)] [pI (ii x)] M X = some (.inl none, M', X) ∧ FV M' F (cs ++ setC k (x :: w)) (setW k (x :: w)) ∧ FrF F M M' := by
  have hr := rl_500 (F + 7)
  intro w
  induction w with
  | nil =>
    intro cs x M h hl
    obtain ⟨a1, a2, a3, a4, a5, a6⟩ := h
    have hx := stg_in x
    have a3 : M F 4 = ii 1 := a3
    rw [q103_20, S19 a6.2.1, kb1, q103_23, ilt (by omega)]
    unfold setC setW
    by_cases c : k ≤ stg x
    · have hl : (cs.length : Int) < rl (F + 7) := by simp at hl; omega
      have a7 : cl M (F + 3) 0 = ii x := a6.1
      obtain ⟨b1, b2⟩ := add_v (M := upM M F 4 (ii 0)) (F := F) (cs := cs) (w := []) (c := x) (v := ii x) ⟨by rw [up_d (by decide)]; exact a1, a2, by rw [up_s, if_pos rfl]; rfl, by simp, CD_k (by funext y; exact up_n (by omega)) a5, trivial⟩ hl a6.2.1 rfl
      refine ⟨upM (sc (upM M F 4 (ii 0)) (F + 7) cs.length (ii x)) F 2 (ii (cs.length + 1)), ?_, by rw [if_pos c, if_pos c]; exact b1, FrF.tr ⟨fun b b1 _ _ => by funext y; exact up_n b1, fun k k1 k2 => up_d k2⟩ b2⟩
      · rw [if_neg (by omega), a3, i_1, ii_sub, show (1 : Int) - 1 = 0 by omega, up_s, if_pos rfl, S12 (by omega) (by omega), kb1, cl_at (M := M) (by funext y; exact up_n (by omega)), a7, q103_56, up_d (show (2 : Nat) ≠ 4 by decide), a1, S11 (by omega) hl, kb0, q103_59, sc_n (by omega), up_d (show (2 : Nat) ≠ 4 by decide), a1, i_1, ii_add, up_d (show (4 : Nat) ≠ 2 by decide), sc_n (by omega), up_s, if_pos rfl, i_0, ltF (by omega), q103_72]
    · rw [if_pos (by omega), q103_72, if_neg c, if_neg c, List.append_nil]
      exact ⟨M, rfl, ⟨a1, a2, a3, a4, a5, a6⟩, FrF.rf⟩
  | cons y r ih =>
    intro cs x M h hl
    obtain ⟨a1, a2, a3, a4, a5, a6⟩ := h
    have hx := stg_in x
    have hl : (cs.length : Int) + r.length + 2 ≤ rl (F + 7) := by rw [List.length_cons] at hl; omega
    have a3 : M F 4 = ii ((r.length : Int) + 2) := a3
    have a4 : r.length + 2 ≤ 64 := a4
    rw [q103_20, S19 a6.2.1, kb1, q103_23, ilt (by omega)]
    rw [show setC k (x :: y :: r) = if k ≤ stg x then x :: setC k (y :: r) else [] from rfl, show setW k (x :: y :: r) = if k ≤ stg x then setW k (y :: r) else x :: y :: r from rfl]
    by_cases c : k ≤ stg x
    · have hl2 : (cs.length : Int) < rl (F + 7) := by omega
      have a7 : cl M (F + 3) ((r.length : Int) + 1) = ii x := a6.1
      have a8 : cl M (F + 3) (r.length : Int) = ii y := a6.2.2.1
      obtain ⟨b1, b2⟩ := add_v (M := upM M F 4 (ii ((r.length : Int) + 1))) (F := F) (cs := cs) (w := y :: r) (c := x) (v := ii x) ⟨by rw [up_d (by decide)]; exact a1, a2, by rw [up_s, if_pos rfl]; rfl, by rw [List.length_cons]; omega, CD_k (by funext y; exact up_n (by omega)) a5, WK_at (by funext y; exact up_n (by omega)) a6.2.2⟩ hl2 a6.2.1 rfl
      obtain ⟨M', d1, d2, d3⟩ := ih (cs ++ [x]) y _ b1 (by rw [List.length_append]; show ((cs.length + 1 : Nat) : Int) + r.length + 1 ≤ _; omega)
      refine ⟨M', ?_, ?_, ?_⟩
      · rw [if_neg (by omega), a3, i_1, ii_sub, show (r.length : Int) + 2 - 1 = r.length + 1 by omega, up_s, if_pos rfl, S12 (by omega) (by omega), kb1, cl_at (M := M) (by funext y; exact up_n (by omega)), a7, q103_56, up_d (show (2 : Nat) ≠ 4 by decide), a1, S11 (by omega) hl2, kb0, q103_59, sc_n (by omega), up_d (show (2 : Nat) ≠ 4 by decide), a1, i_1, ii_add, up_d (show (4 : Nat) ≠ 2 by decide), sc_n (by omega), up_s, if_pos rfl, i_0, ltT (by omega), ii_sub, show (r.length : Int) + 1 - 1 = r.length by omega, S12 (by omega) (by omega), kb1, cl_at (M := M) (by funext z; rw [up_n (by omega), sc_n (by omega)]; exact up_n (by omega)), a8, d1]
      · rw [if_pos c, if_pos c]
        rw [List.append_assoc] at d2
        exact d2
      · refine FrF.tr (FrF.tr ⟨fun b b1 _ _ => ?_, fun k k1 k2 => ?_⟩ b2) d3
        · funext y; exact up_n b1
        · exact up_d k2
    · rw [if_pos (by omega), q103_72, if_neg c, if_neg c, List.append_nil]
      exact ⟨M, rfl, ⟨a1, a2, a3, a4, a5, a6⟩, FrF.rf⟩
theorem S103 (h : FV M F cs w) (r3 : rl (F + 3) = 64) (hk : 0 ≤ k ∧ k ≤ 4) (hl : (cs.length : Int) + w.length ≤ rl (F + 7)) : ∃ M', ev true 103 0 0 [pR 12 F, pI (ii k)] [] M X = some (.inl none, M', X) ∧ FV M' F (cs ++ setC k w) (setW k w) ∧ FrF F M M' := by
  cases w with
  | nil =>
    have a3 : M F 4 = ii 0 := h.2.2.1
    refine ⟨M, by rw [q103_0, a3, i_0, ltF (by omega), q103_72], ?_, FrF.rf⟩
    show FV M F (cs ++ []) []
    rw [List.append_nil]
    exact h
  | cons x r =>
    have a3 : M F 4 = ii ((r.length : Int) + 1) := h.2.2.1
    have a4 : r.length + 1 ≤ 64 := h.2.2.2.1
    have hl : (cs.length : Int) + r.length + 1 ≤ rl (F + 7) := by rw [List.length_cons] at hl; omega
    obtain ⟨M', b1, b2, b3⟩ := S103l (X := X) r3 hk r cs x M h hl
    exact ⟨M', by rw [q103_0, a3, i_0, ltT (by omega), i_1, ii_sub, show (r.length : Int) + 1 - 1 = r.length by omega, S12 (by omega) (by omega), kb1, h.2.2.2.2.2.1, b1], b2, b3⟩
theorem S170 (h : FV M F cs w) (r3 : rl (F + 3) = 64) (hc : -100 ≤ c ∧ c < 100000) (hl : (cs.length : Int) + w.length ≤ rl (F + 7)) (hw : (setW (stg c) w).length < 64) : ∃ M', ev true 170 0 0 [pR 12 F, pI (ii c)] [] M X = some (.inl none, M', X) ∧ FV M' F (cs ++ setC (stg c) w) (c :: setW (stg c) w) ∧ FrF F M M' := by
  obtain ⟨M1, a1, a2, a3⟩ := S103 (X := X) h r3 (stg_in c) hl
  obtain ⟨M2, b1, b2, b3⟩ := S100 (X := X) a2 r3 hw hc
  exact ⟨M2, by rw [q170_0, S19 hc, kb1, q170_5, a1, kb0, q170_8, b1, kb0, q170_13], b2, a3.tr b3⟩
theorem S171 (h : FV M F cs w) (r3 : rl (F + 3) = 64) (hl : (cs.length : Int) + w.length ≤ rl (F + 7)) : ∃ M', ev true 171 0 0 [pR 12 F] [] M X = some (.inl none, M', X) ∧ FV M' F (cs ++ setC 1 w) (setW 1 w).tail ∧ FrF F M M' := by
  obtain ⟨M1, a1, a2, a3⟩ := S103 (X := X) h r3 (k := 1) (by omega) hl
  obtain ⟨b1, b2, b3, b4, b5, b6⟩ := a2
  have hx : ∃ q : Nat, (if 0 < (M1 F 4) - 1 then (M1 F 4) - 1 else 0) = ii q ∧ q = (setW 1 w).tail.length := by
    rw [b3, i_0, i_1, ii_sub, ilt (by omega)]
    refine ⟨(setW 1 w).tail.length, ?_, rfl⟩
    rw [List.length_tail]
    by_cases c : (0 : Int) < (setW 1 w).length - 1
    · rw [if_pos c]; congr 1; omega
    · rw [if_neg c]; congr 1; omega
  obtain ⟨q, q1, q2⟩ := hx
  refine ⟨upM M1 F 4 (ii q), by rw [q171_0, i_1, a1, kb0, q171_5, q1, q171_16], ⟨by rw [up_d (by decide)]; exact b1, b2, by rw [up_s, if_pos rfl, q2], ?_, CD_k (by funext y; exact up_n (by omega)) b5, WK_at (M := M1) (by funext y; exact up_n (by omega)) ?_⟩, a3.tr ⟨fun b c1 _ _ => by funext y; exact up_n c1, fun k _ k2 => up_d k2⟩⟩
  · rw [List.length_tail]; omega
  · cases hw : setW 1 w with
    | nil => trivial
    | cons x r => rw [hw] at b6; exact b6.2.2
theorem S172 (h : FV M F cs w) (r3 : rl (F + 3) = 64) (hl : (cs.length : Int) + w.length ≤ rl (F + 7)) : ∃ M', ev true 172 0 0 [pR 12 F] [] M X = some (.inl none, M', X) ∧ FV M' F (cs ++ setC 1 w) (setW 1 w) ∧ FrF F M M' := by
  obtain ⟨M1, a1, a2, a3⟩ := S103 (X := X) h r3 (k := 1) (by omega) hl
  exact ⟨M1, by rw [q172_0, i_1, a1, kb0, q172_5], a2, a3⟩
theorem set_ap (hp : ∀ x ∈ ps, k ≤ stg x) (hw : ∀ x r, w = x :: r → stg x < k) : setC k (ps ++ w) = ps ∧ setW k (ps ++ w) = w := by
  induction ps with
  | nil =>
    cases w with
    | nil => exact ⟨rfl, rfl⟩
    | cons x r =>
      have := hw x r rfl
      show (if k ≤ stg x then _ else _) = _ ∧ (if k ≤ stg x then _ else _) = _
      rw [if_neg (by omega), if_neg (by omega)]
      exact ⟨rfl, rfl⟩
  | cons a l ih =>
    have ha := hp a List.mem_cons_self
    obtain ⟨e1, e2⟩ := ih (fun x hx => hp x (List.mem_cons_of_mem _ hx))
    show (if k ≤ stg a then a :: setC k (l ++ w) else []) = _ ∧ (if k ≤ stg a then setW k (l ++ w) else a :: (l ++ w)) = _
    rw [if_pos ha, if_pos ha, e1, e2]
    exact ⟨rfl, rfl⟩
end FML
