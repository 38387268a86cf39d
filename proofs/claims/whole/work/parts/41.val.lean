/-! a formula's value; a side's rank -/
section VAL
set_option maxRecDepth 100000
variable {u s p l t g : Nat} {j k q e w c T n tu nx v off : Int} {A A' : AT} {M M' : Mem} {X : PX} {f : Nat}
theorem i_m2 : (-2 : Int32) = ii (-2) := rfl
theorem i_m3 : (-3 : Int32) = ii (-3) := rfl
theorem i_m4 : (-4 : Int32) = ii (-4) := rfl
theorem i_m5 : (-5 : Int32) = ii (-5) := rfl
theorem i_m6 : (-6 : Int32) = ii (-6) := rfl
theorem i_m7 : (-7 : Int32) = ii (-7) := rfl
theorem i_m8 : (-8 : Int32) = ii (-8) := rfl
theorem i_m9 : (-9 : Int32) = ii (-9) := rfl
theorem i_m10 : (-10 : Int32) = ii (-10) := rfl
theorem i_m11 : (-11 : Int32) = ii (-11) := rfl
theorem i_m12 : (-12 : Int32) = ii (-12) := rfl
theorem i_m13 : (-13 : Int32) = ii (-13) := rfl
theorem i_m14 : (-14 : Int32) = ii (-14) := rfl
theorem i_m15 : (-15 : Int32) = ii (-15) := rfl
theorem i_m16 : (-16 : Int32) = ii (-16) := rfl
theorem i_m17 : (-17 : Int32) = ii (-17) := rfl
theorem i_m18 : (-18 : Int32) = ii (-18) := rfl
theorem i_m19 : (-19 : Int32) = ii (-19) := rfl
theorem i_m20 : (-20 : Int32) = ii (-20) := rfl
def tog (c : Int) (x y : Int32) : Int32 := if c = -17 then x &&& y else if c = -16 then (if y < x then ii 1 else ii 0) else if c = -15 then (if x = y then ii 1 else ii 0) else if c = -14 then (if x < y then ii 1 else ii 0) else if c = -13 then x * y else if c = -12 then x - y else if c = -11 then x + y else x ||| y
theorem S20 {x y : Int32} (h : -100 ≤ c ∧ c < 100000) : ev true 20 0 0 [pI (ii c), pI x, pI y] [] M X = some (.inl (some (pI (tog c x y))), M, X) := by
  unfold tog
  rw [q20_0, i_m17, i_m16, i_m15, i_m14, i_m13, i_m12, i_m11, i_0, i_1, ieq (by omega), ieq (by omega), ieq (by omega), ieq (by omega), ieq (by omega), ieq (by omega), ieq (by omega)]
  split
  · rfl
  · split
    · split <;> rw [q20_88]
    · split
      · split <;> rw [q20_77]
      · split
        · split <;> rw [q20_66]
        · split
          · rfl
          · split
            · rfl
            · split <;> rfl
/-- a stack in a row, its top first in the list -/
def SR (M : Mem) (t : Nat) : List Int32 → Prop
  | [] => True
  | x :: r => cl M t r.length = x ∧ SR M t r
theorem SR_k {z : Int} {x : Int32} (hz : 0 ≤ z) : ∀ {st : List Int32}, (st.length : Int) ≤ z → SR M t st → SR (sc M t z x) t st
  | [], _, _ => trivial
  | a :: r, h, hs => by
    have h' : (r.length : Int) + 1 ≤ z := by rw [List.length_cons] at h; omega
    exact ⟨by rw [cl_sc hz (by omega), if_neg (by omega)]; exact hs.1, SR_k hz (by omega) hs.2⟩
def CD (M : Mem) (t : Nat) : Int → List Int → Prop
  | _, [] => True
  | i, c :: cs => cl M t i = ii c ∧ (-100 ≤ c ∧ c < 100000) ∧ CD M t (i + 1) cs
theorem CD_k (h1 : M' (t + 1) = M (t + 1)) : ∀ {i : Int} {cs : List Int}, CD M t i cs → CD M' t i cs
  | _, [], _ => trivial
  | _, _ :: _, h => ⟨by rw [cl_at h1]; exact h.1, h.2.1, CD_k h1 h.2.2⟩
def stp1 (pv : Int → Int32) (c : Int) (st : List Int32) : Option (List Int32) :=
  if 0 ≤ c then (if st.length < 64 then some (ii c :: st) else none)
  else if -8 ≤ c then (if st.length < 64 then some (pv (-1 - c) :: st) else none)
  else if c = -19 then (match st with | x :: r => some ((ii 1 - x) :: r) | [] => none)
  else (match st with | y :: x :: r => some (tog c x y :: r) | _ => none)
def evS (pv : Int → Int32) : List Int → List Int32 → Option (List Int32)
  | [], st => some st
  | c :: cs, st => (stp1 pv c st).bind (evS pv cs)
def hdS (st : List Int32) : Int32 := match st with | x :: _ => x | [] => ii 0
theorem S104l {pv : Int → Int32} {F : Nat} (lp : rl (F + 1) = 8) (lst : rl (F + 5) = 64) (lc : rl (F + 7) ≤ 500) (hn : M F 2 = ii n) (hn2 : 0 ≤ n ∧ n ≤ rl (F + 7)) (hpv : ∀ k, 0 ≤ k → k < 8 → cl M (F + 1) k = pv k) :
    ∀ (cs : List Int) (i : Int) (st st' : List Int32) (M1 : Mem) (z3 : PV), i + cs.length = n → 0 ≤ i → st.length ≤ 64 → (∀ b, b ≠ F + 6 → M1 b = M b) → CD M1 (F + 7) i cs → SR M1 (F + 5) st → evS pv cs st = some st' → ∃ M', ev true 104 0 4 [pR 12 F, pI (ii st.length), pI (ii i), z3] [] M1 X = some (.inl (some (pI (hdS st'))), M', X) ∧ ∀ b, b ≠ F + 6 → M' b = M b := by
  intro cs
  induction cs with
  | nil =>
    intro i st st' M1 z3 h1 h2 h64 h3 h4 h5 h6
    have h6 : some st = some st' := h6
    cases h6
    rw [q104_4, h3 F (by omega), hn, ltF (by simp at h1; omega), i_0, ilt (by omega)]
    cases st with
    | nil =>
      rw [if_neg (by simp), q104_160]
      exact ⟨M1, rfl, h3⟩
    | cons x r =>
      have hl : ((x :: r).length : Int) = r.length + 1 := by rw [List.length_cons]; omega
      have h64' : r.length + 1 ≤ 64 := by rw [List.length_cons] at h64; exact h64
      rw [hl, if_pos (by omega), i_1, ii_sub, show (r.length : Int) + 1 - 1 = r.length by omega, S12 (by omega) (by omega), kb1, q104_156, q104_160, h5.1]
      exact ⟨M1, rfl, h3⟩
  | cons c cs ih =>
    intro i st st' M1 z3 h1 h2 h64 h3 h4 h5 h6
    obtain ⟨c1, c2, c3⟩ := h4
    have h1' : i + (cs.length + 1 : Int) = n := by rw [List.length_cons] at h1; omega
    have h6 : (stp1 pv c st).bind (evS pv cs) = some st' := h6
    obtain ⟨st2, e1, e2⟩ := bind_inv h6
    rw [q104_4, h3 F (by omega), hn, ltT (by omega), S12 h2 (by omega), kb1, q104_20, c1, i_0, i_m8, i_m19, ii_m1, i_1, ilt (by omega)]
    unfold stp1 at e1
    by_cases k1 : 0 ≤ c
    · rw [if_pos k1] at e1
      obtain ⟨d1, d2⟩ := ite_inv e1
      cases d2
      rw [if_neg (by omega), S11 (by omega) (by omega), kb0, q104_34, i_1, ii_add, q104_136, i_1, ii_add]
      have hh := ih (i + 1) (ii c :: st) st' (sc M1 (F + 5) st.length (ii c)) (pI (ii c)) (by omega) (by omega) (by rw [List.length_cons]; omega) (fun b hb => by rw [← h3 b hb]; funext y; exact sc_n (by omega)) (CD_k (by funext y; exact sc_n (by omega)) c3) ⟨by rw [cl_sc (by omega) (by omega), if_pos rfl], SR_k (by omega) (Int.le_refl _) h5⟩ e2
      rw [List.length_cons] at hh
      exact hh
    · rw [if_neg k1] at e1
      rw [if_pos (by omega), ilt (by omega)]
      by_cases k2 : -8 ≤ c
      · rw [if_pos k2] at e1
        obtain ⟨d1, d2⟩ := ite_inv e1
        cases d2
        rw [if_neg (by omega), ii_sub, S12 (by omega) (by omega), kb1, q104_61, S11 (by omega) (by omega), kb0, q104_64, i_1, ii_add, q104_136, i_1, ii_add, show cl M1 (F + 1) (-1 - c) = pv (-1 - c) by rw [cl_at (h3 (F + 2) (by omega))]; exact hpv _ (by omega) (by omega)]
        have hh := ih (i + 1) (pv (-1 - c) :: st) st' (sc M1 (F + 5) st.length (pv (-1 - c))) (pI (ii c)) (by omega) (by omega) (by rw [List.length_cons]; omega) (fun b hb => by rw [← h3 b hb]; funext y; exact sc_n (by omega)) (CD_k (by funext y; exact sc_n (by omega)) c3) ⟨by rw [cl_sc (by omega) (by omega), if_pos rfl], SR_k (by omega) (Int.le_refl _) h5⟩ e2
        rw [List.length_cons] at hh
        exact hh
      · rw [if_neg k2] at e1
        rw [if_pos (by omega), ieq (by omega)]
        by_cases k3 : c = -19
        · rw [if_pos k3] at e1
          rw [if_pos k3]
          cases st with
          | nil => cases e1
          | cons x r =>
            cases e1
            have hl : ((x :: r).length : Int) = r.length + 1 := by rw [List.length_cons]; omega
            have h64' : r.length + 1 ≤ 64 := by rw [List.length_cons] at h64; exact h64
            rw [hl, ii_sub, show (r.length : Int) + 1 - 1 = r.length by omega, S12 (by omega) (by omega), kb1, q104_94, h5.1, S11 (by omega) (by omega), kb0, q104_98, q104_136, i_1, ii_add]
            have hh := ih (i + 1) ((ii 1 - x) :: r) st' (sc M1 (F + 5) r.length (ii 1 - x)) (pI (ii c)) (by omega) (by omega) (by rw [List.length_cons]; omega) (fun b hb => by rw [← h3 b hb]; funext y; exact sc_n (by omega)) (CD_k (by funext y; exact sc_n (by omega)) c3) ⟨by rw [cl_sc (by omega) (by omega), if_pos rfl], SR_k (by omega) (Int.le_refl _) h5.2⟩ e2
            rw [List.length_cons, show ((r.length + 1 : Nat) : Int) = r.length + 1 from rfl] at hh
            exact hh
        · rw [if_neg k3] at e1
          rw [if_neg k3]
          match st, e1, h5, h64 with
          | [], e1, _, _ => cases e1
          | [_], e1, _, _ => cases e1
          | y :: x :: r, e1, h5, h64 =>
            cases e1
            have hl : ((y :: x :: r).length : Int) = r.length + 2 := by rw [List.length_cons, List.length_cons]; omega
            have h64' : r.length + 2 ≤ 64 := by rw [List.length_cons, List.length_cons] at h64; exact h64
            obtain ⟨hy, hx, hr⟩ := h5
            rw [List.length_cons] at hy
            rw [hl, ii_add, ii_sub, show (r.length : Int) + 2 + -1 - 1 = r.length by omega, show (r.length : Int) + 2 + -1 = r.length + 1 by omega, S12 (by omega) (by omega), kb1, q104_122, S12 (by omega) (by omega), kb1, q104_130, hx, show cl M1 (F + 5) ((r.length : Int) + 1) = y from hy, S20 c2, kb1, q104_133, S11 (by omega) (by omega), kb0, q104_136, i_1, ii_add]
            have hh := ih (i + 1) (tog c x y :: r) st' (sc M1 (F + 5) r.length (tog c x y)) (pI (ii c)) (by omega) (by omega) (by rw [List.length_cons]; omega) (fun b hb => by rw [← h3 b hb]; funext y; exact sc_n (by omega)) (CD_k (by funext y; exact sc_n (by omega)) c3) ⟨by rw [cl_sc (by omega) (by omega), if_pos rfl], SR_k (by omega) (Int.le_refl _) hr⟩ e2
            rw [List.length_cons, show ((r.length + 1 : Nat) : Int) = r.length + 1 from rfl] at hh
            exact hh
theorem S104 {pv : Int → Int32} {F : Nat} {cs : List Int} {st' : List Int32} (lp : rl (F + 1) = 8) (lst : rl (F + 5) = 64) (lc : rl (F + 7) ≤ 500) (hn : M F 2 = ii cs.length) (hn2 : (cs.length : Int) ≤ rl (F + 7)) (hpv : ∀ k, 0 ≤ k → k < 8 → cl M (F + 1) k = pv k) (hc : CD M (F + 7) 0 cs) (he : evS pv cs [] = some st') :
    ∃ M', ev true 104 0 0 [pR 12 F, p0, p0, p0] [] M X = some (.inl (some (pI (hdS st'))), M', X) ∧ ∀ b, b ≠ F + 6 → M' b = M b := by
  obtain ⟨M', h1, h2⟩ := S104l (X := X) lp lst lc hn ⟨by omega, hn2⟩ hpv cs 0 [] st' M p0 (by omega) (by omega) (by simp) (fun _ _ => rfl) hc trivial he
  exact ⟨M', by rw [q104_0, i_0]; exact h1, h2⟩
end VAL
