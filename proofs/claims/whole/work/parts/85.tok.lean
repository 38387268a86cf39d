/-! tokens of a text, on both sides -/
section TOK
set_option maxRecDepth 100000
variable {t : Nat} {z y a b c d f lo hi v : Int} {M M' M0 M1 M2 : Mem} {X : PX} {n m i e k p : Nat} {D : Nat → Int}
def kdC (c : Int) : Int := if 97 ≤ c ∧ c ≤ 122 then 1 else if 48 ≤ c ∧ c ≤ 57 then 2 else 3
def skB (D : Nat → Int) : Nat → Nat → Nat
  | 0, i => i
  | m + 1, i => if D i = 32 ∨ D i = 10 then skB D m (i + 1) else i
def bgT (D : Nat → Int) (n i : Nat) : Nat := skB D (n - i) i
def enB (D : Nat → Int) (k : Int) : Nat → Nat → Nat
  | 0, i => i
  | m + 1, i => if kdC (D i) = k then enB D k m (i + 1) else i
def tK (D : Nat → Int) (n b : Nat) : Int := if b < n then kdC (D b) else 0
def tE (D : Nat → Int) (n b : Nat) : Nat := if b < n then (if kdC (D b) = 3 then b + 1 else enB D (kdC (D b)) (n - (b + 1)) (b + 1)) else b
def nxD (D : Nat → Int) (n b : Nat) : Nat := bgT D n (tE D n b)
theorem kd_in (c : Int) : kdC c = 1 ∨ kdC c = 2 ∨ kdC c = 3 := by
  unfold kdC
  split
  · omega
  · split <;> omega
theorem sk_in : ∀ (m i : Nat), i ≤ skB D m i ∧ skB D m i ≤ i + m ∧ (∀ j, i ≤ j → j < skB D m i → D j = 32 ∨ D j = 10) ∧ (skB D m i < i + m → ¬ (D (skB D m i) = 32 ∨ D (skB D m i) = 10))
  | 0, i => ⟨Nat.le_refl _, Nat.le_refl _, fun j a b => absurd b (by show ¬ j < i; omega), fun h => absurd h (by show ¬ i < i + 0; omega)⟩
  | m + 1, i => by
    unfold skB
    by_cases h : D i = 32 ∨ D i = 10
    · rw [if_pos h]
      obtain ⟨a1, a2, a3, a4⟩ := sk_in m (i + 1)
      refine ⟨by omega, by omega, fun j b1 b2 => ?_, fun b1 => a4 (by omega)⟩
      rcases Nat.eq_or_lt_of_le b1 with e | e
      · rw [← e]; exact h
      · exact a3 j e b2
    · rw [if_neg h]
      exact ⟨Nat.le_refl _, by omega, fun j b1 b2 => by omega, fun _ => h⟩
theorem bg_in (h : i ≤ n) : i ≤ bgT D n i ∧ bgT D n i ≤ n ∧ (∀ j, i ≤ j → j < bgT D n i → D j = 32 ∨ D j = 10) ∧ (bgT D n i < n → ¬ (D (bgT D n i) = 32 ∨ D (bgT D n i) = 10)) := by
  obtain ⟨a1, a2, a3, a4⟩ := sk_in (D := D) (n - i) i
  unfold bgT
  exact ⟨a1, by omega, a3, fun h => a4 (by omega)⟩
theorem en_in {k : Int} : ∀ (m i : Nat), i ≤ enB D k m i ∧ enB D k m i ≤ i + m ∧ (∀ j, i ≤ j → j < enB D k m i → kdC (D j) = k) ∧ (enB D k m i < i + m → kdC (D (enB D k m i)) ≠ k)
  | 0, i => ⟨Nat.le_refl _, Nat.le_refl _, fun j a b => absurd b (by show ¬ j < i; omega), fun h => absurd h (by show ¬ i < i + 0; omega)⟩
  | m + 1, i => by
    unfold enB
    by_cases h : kdC (D i) = k
    · rw [if_pos h]
      obtain ⟨a1, a2, a3, a4⟩ := en_in (k := k) m (i + 1)
      refine ⟨by omega, by omega, fun j b1 b2 => ?_, fun b1 => a4 (by omega)⟩
      rcases Nat.eq_or_lt_of_le b1 with e | e
      · rw [← e]; exact h
      · exact a3 j e b2
    · rw [if_neg h]
      exact ⟨Nat.le_refl _, by omega, fun j b1 b2 => by omega, fun _ => h⟩
theorem te_in {b : Nat} (h : b < n) : b + 1 ≤ tE D n b ∧ tE D n b ≤ n ∧ (∀ j, b ≤ j → j < tE D n b → kdC (D j) = kdC (D b)) ∧ (kdC (D b) ≠ 3 → tE D n b < n → kdC (D (tE D n b)) ≠ kdC (D b)) := by
  unfold tE
  rw [if_pos h]
  by_cases c : kdC (D b) = 3
  · rw [if_pos c]
    exact ⟨Nat.le_refl _, h, fun j h1 h2 => by rw [show j = b by omega], fun z => absurd c z⟩
  · rw [if_neg c]
    obtain ⟨a1, a2, a3, a4⟩ := en_in (D := D) (k := kdC (D b)) (n - (b + 1)) (b + 1)
    refine ⟨a1, by omega, fun j h1 h2 => ?_, fun _ h1 => a4 (by omega)⟩
    rcases Nat.eq_or_lt_of_le h1 with e | e
    · rw [← e]
    · exact a3 j e h2
theorem te_ge {b : Nat} (h : ¬ b < n) : tE D n b = b := by unfold tE; rw [if_neg h]
theorem te_le {b : Nat} (h : b ≤ n) : b ≤ tE D n b ∧ tE D n b ≤ n := by
  by_cases c : b < n
  · have := te_in (D := D) c
    omega
  · rw [te_ge c]; omega
theorem nx_in {b : Nat} (h : b ≤ n) : b ≤ nxD D n b ∧ nxD D n b ≤ n ∧ (b < n → b < nxD D n b) := by
  have h1 := te_le (D := D) h
  have h2 := bg_in (D := D) h1.2
  unfold nxD
  refine ⟨by omega, h2.2.1, fun h3 => ?_⟩
  have := te_in (D := D) h3
  omega
/-- a place in a text, or its fault -/
abbrev PS : Type := Nat ⊕ (Int × Nat)
variable {P : PS}
def CTk (M : Mem) (D : Nat → Int) (n b : Nat) : Prop := b ≤ n ∧ M 1 4 = ii b ∧ M 1 5 = ii (tE D n b) ∧ M 1 3 = ii (tK D n b)
def CB (M : Mem) (D : Nat → Int) (n : Nat) : Prop := n ≤ 500 ∧ M 1 2 = ii n ∧ ∀ i, i < n → M 3 i = ii (D i) ∧ 0 ≤ D i ∧ D i < 256
def CT (M : Mem) (D : Nat → Int) (n : Nat) : PS → Prop
  | .inl b => CTk M D n b ∧ M 1 6 = ii 0 ∧ M 1 7 = ii (-1)
  | .inr (f, p) => (∃ b, CTk M D n b) ∧ M 1 6 = ii f ∧ (1 ≤ f ∧ f ≤ 5) ∧ M 1 7 = ii p ∧ p ≤ n
def CTP (M : Mem) (D : Nat → Int) (n : Nat) (P : PS) : Prop := CB M D n ∧ CT M D n P
def FrC (M M' : Mem) : Prop := (∀ b, b ≠ 1 → M' b = M b) ∧ ∀ k, k < 3 → M' 1 k = M 1 k
theorem FrC.rf : FrC M M := ⟨fun _ _ => rfl, fun _ _ => rfl⟩
theorem FrC.tr {M1 M2 M3 : Mem} (h1 : FrC M1 M2) (h2 : FrC M2 M3) : FrC M1 M3 := ⟨fun b h => (h2.1 b h).trans (h1.1 b h), fun k h => (h2.2 k h).trans (h1.2 k h)⟩
theorem CB.fr (h : CB M D n) (hf : FrC M M') : CB M' D n := ⟨h.1, (hf.2 2 (by omega)).trans h.2.1, fun i hi => by rw [hf.1 3 (by omega)]; exact h.2.2 i hi⟩
theorem CTP.kp (h : CTP M D n P) (h1 : M' 1 = M 1) (h3 : M' 3 = M 3) : CTP M' D n P := by
  obtain ⟨⟨a1, a2, a3⟩, b⟩ := h
  refine ⟨⟨a1, by rw [h1]; exact a2, fun i hi => by rw [h3]; exact a3 i hi⟩, ?_⟩
  cases P with
  | inl b' =>
    obtain ⟨⟨b1, b2, b3, b4⟩, b5, b6⟩ := b
    exact ⟨⟨b1, by rw [h1]; exact b2, by rw [h1]; exact b3, by rw [h1]; exact b4⟩, by rw [h1]; exact b5, by rw [h1]; exact b6⟩
  | inr q =>
    obtain ⟨⟨b', b1, b2, b3, b4⟩, b5, b6, b7, b8⟩ := b
    exact ⟨⟨b', b1, by rw [h1]; exact b2, by rw [h1]; exact b3, by rw [h1]; exact b4⟩, by rw [h1]; exact b5, b6, by rw [h1]; exact b7, b8⟩
theorem rl2 : rl 2 = 500 := by unfold rl; rw [show ln (2 + 1) = 500 by decide +kernel]; rfl
theorem S12b (h : CB M D n) (hi : i < n) : ev true 12 0 0 [pR 8 2, pI (ii i)] [] M X = some (.inl (some (pI (ii (D i)))), M, X) := by
  rw [S12 (by omega) (by rw [rl2]; have := h.1; omega)]
  rw [show cl M 2 i = M 3 i from rfl, (h.2.2 i hi).1]
theorem S4 (h : 0 ≤ c ∧ c < 256) : ev true 4 0 0 [pI (ii c)] [] M X = some (.inl (some (pI (ii (kdC c)))), M, X) := by
  unfold kdC
  rw [q4_0, i_97, i_122, ilt (by omega), ilt (by omega)]
  by_cases c1 : c < 97
  · rw [if_pos c1, if_neg (by omega), q4_14, i_48, i_57, ilt (by omega), ilt (by omega)]
    by_cases c2 : c < 48
    · rw [if_pos c2, if_neg (by omega), q4_30, i_3, q4_31]
    · rw [if_neg c2]
      by_cases c3 : 57 < c
      · rw [if_pos c3, if_neg (by omega), q4_30, i_3, q4_31]
      · rw [if_neg c3, if_pos (by omega), i_2, q4_31]
  · rw [if_neg c1]
    by_cases c2 : 122 < c
    · rw [if_pos c2, if_neg (by omega), q4_14, i_48, i_57, ltF (by omega), ltT (by omega), if_neg (by omega), q4_30, i_3, q4_31]
    · rw [if_neg c2, if_pos (by omega), i_1]
/-- blanks are passed: the class -/
theorem S60a (hb : CB M0 D n) : ∀ (m i : Nat) (M : Mem), i + m = n → M 1 4 = ii i → (∀ b, b ≠ 1 → M b = M0 b) → (∀ k, k ≠ 4 → M 1 k = M0 1 k) → ∃ M', ev true 60 0 8 [pR 2 1] [] M X = ev true 60 0 64 [pR 2 1] [] M' X ∧ M' 1 4 = ii (skB D m i) ∧ (∀ b, b ≠ 1 → M' b = M0 b) ∧ ∀ k, k ≠ 4 → M' 1 k = M0 1 k := by
  have h500 := hb.1
  intro m
  induction m with
  | zero =>
    intro i M h1 h4 h5 h6
    exact ⟨M, by rw [q60_8, h4, h6 2 (by decide), hb.2.1, ltF (by omega)], h4, h5, h6⟩
  | succ m ih =>
    intro i M h1 h4 h5 h6
    have hbM : CB M D n := ⟨hb.1, by rw [h6 2 (by decide)]; exact hb.2.1, fun j hj => by rw [h5 3 (by decide)]; exact hb.2.2 j hj⟩
    obtain ⟨-, d1, d2⟩ := hb.2.2 i (by omega)
    have go : ∃ M', ev true 60 0 51 [pR 2 1] [] M X = ev true 60 0 64 [pR 2 1] [] M' X ∧ M' 1 4 = ii (skB D m (i + 1)) ∧ (∀ b, b ≠ 1 → M' b = M0 b) ∧ ∀ k, k ≠ 4 → M' 1 k = M0 1 k := by
      obtain ⟨M', a1, a2⟩ := ih (i + 1) (upM M 1 4 (ii ((i : Int) + 1))) (by omega) (by rw [up_s, if_pos rfl]; rfl) (fun b hb => by rw [← h5 b hb]; funext y; exact up_n hb) (fun k hk => by rw [up_d hk]; exact h6 k hk)
      exact ⟨M', by rw [q60_51, h4, i_1, ii_add, a1], a2⟩
    rw [q60_8, h4, h6 2 (by decide), hb.2.1, ltT (by omega), S12b hbM (by omega), kb1, q60_30, i_32, ieq (by omega)]
    unfold skB
    by_cases c1 : D i = 32
    · rw [if_pos c1, if_pos (Or.inl c1)]
      exact go
    · rw [if_neg c1, h4, S12b hbM (by omega), kb1, q60_46, i_10, ieq (by omega)]
      by_cases c2 : D i = 10
      · rw [if_pos c2, if_pos (Or.inr c2)]
        exact go
      · rw [if_neg c2, if_neg (by omega)]
        exact ⟨M, rfl, h4, h5, h6⟩
theorem S60b (hb : CB M0 D n) {kk : Int} (hk : kk = 1 ∨ kk = 2) (h3 : M0 1 3 = ii kk) : ∀ (m i : Nat) (M : Mem), i + m = n → M 1 5 = ii i → (∀ b, b ≠ 1 → M b = M0 b) → (∀ k, k ≠ 5 → M 1 k = M0 1 k) → ∃ M', ev true 60 0 117 [pR 2 1] [] M X = some (.inl none, M', X) ∧ M' 1 5 = ii (enB D kk m i) ∧ (∀ b, b ≠ 1 → M' b = M0 b) ∧ ∀ k, k ≠ 5 → M' 1 k = M0 1 k := by
  have h500 := hb.1
  intro m
  induction m with
  | zero =>
    intro i M h1 h4 h5 h6
    exact ⟨M, by rw [q60_117, h4, h6 2 (by decide), hb.2.1, ltF (by omega), q60_170], h4, h5, h6⟩
  | succ m ih =>
    intro i M h1 h4 h5 h6
    have hbM : CB M D n := ⟨hb.1, by rw [h6 2 (by decide)]; exact hb.2.1, fun j hj => by rw [h5 3 (by decide)]; exact hb.2.2 j hj⟩
    obtain ⟨-, d1, d2⟩ := hb.2.2 i (by omega)
    have e3 : M 1 3 = ii kk := by rw [h6 3 (by decide)]; exact h3
    have hkd := kd_in (D i)
    rw [q60_117, h4, h6 2 (by decide), hb.2.1, ltT (by omega), e3, i_3, eqF (by omega), S12b hbM (by omega), kb1, q60_147, S4 ⟨d1, d2⟩, kb1, q60_150, e3, ieq (by omega)]
    unfold enB
    by_cases c : kdC (D i) = kk
    · obtain ⟨M', a1, a2⟩ := ih (i + 1) (upM M 1 5 (ii ((i : Int) + 1))) (by omega) (by rw [up_s, if_pos rfl]; rfl) (fun b hb => by rw [← h5 b hb]; funext y; exact up_n hb) (fun k hk => by rw [up_d hk]; exact h6 k hk)
      rw [if_pos c, if_pos c, h4, i_1, ii_add]
      exact ⟨M', a1, a2⟩
    · rw [if_neg c, if_neg c, q60_170]
      exact ⟨M, rfl, h4, h5, h6⟩
theorem S60 (hb : CB M D n) (he : e ≤ n) (h5 : M 1 5 = ii e) : ∃ M', ev true 60 0 0 [pR 2 1] [] M X = some (.inl none, M', X) ∧ CTk M' D n (bgT D n e) ∧ FrC M M' ∧ M' 1 6 = M 1 6 ∧ M' 1 7 = M 1 7 := by
  have h500 := hb.1
  have hb0 : CB (upM M 1 4 (ii e)) D n := ⟨hb.1, by rw [up_d (by decide)]; exact hb.2.1, fun j hj => by rw [up_n (by decide)]; exact hb.2.2 j hj⟩
  obtain ⟨M1, a1, a2, a3, a4⟩ := S60a (X := X) hb0 (n - e) e _ (by omega) (by rw [up_s, if_pos rfl]) (fun _ _ => rfl) (fun _ _ => rfl)
  have hg := bg_in (D := D) he
  have a2 : M1 1 4 = ii (bgT D n e) := a2
  have e12 : M1 1 2 = ii n := by rw [a4 2 (by decide)]; exact hb0.2.1
  have fz : ∀ b, b ≠ 1 → M1 b = M b := fun b h => by rw [a3 b h]; funext y; exact up_n h
  have fk : ∀ k, k ≠ 4 → M1 1 k = M 1 k := fun k h => by rw [a4 k h, up_d h]
  have st4 : upM M1 1 5 (ii (bgT D n e)) 1 4 = ii (bgT D n e) := by rw [up_d (by decide)]; exact a2
  have st2 : upM M1 1 5 (ii (bgT D n e)) 1 2 = ii n := by rw [up_d (by decide)]; exact e12
  by_cases c : bgT D n e < n
  · obtain ⟨-, d1, d2⟩ := hb.2.2 (bgT D n e) c
    have hkd := kd_in (D (bgT D n e))
    have hb2 : CB (upM M1 1 5 (ii (bgT D n e))) D n := ⟨hb.1, st2, fun j hj => by rw [up_n (by decide), fz 3 (by decide)]; exact hb.2.2 j hj⟩
    obtain ⟨M3, e3⟩ : ∃ M3, M3 = upM (upM (upM M1 1 5 (ii (bgT D n e))) 1 3 (ii (kdC (D (bgT D n e))))) 1 5 (ii ((bgT D n e : Int) + 1)) := ⟨_, rfl⟩
    have m3 : M3 1 3 = ii (kdC (D (bgT D n e))) := by rw [e3, up_d (by decide), up_s, if_pos rfl]
    have m4 : M3 1 4 = ii (bgT D n e) := by rw [e3, up_d (by decide), up_d (by decide)]; exact st4
    have m5 : M3 1 5 = ii ((bgT D n e + 1 : Nat) : Int) := by rw [e3, up_s, if_pos rfl]; rfl
    have mk : ∀ k, k ≠ 3 → k ≠ 4 → k ≠ 5 → M3 1 k = M 1 k := fun k k3 k4 k5 => by rw [e3, up_d k5, up_d k3, up_d k5]; exact fk k k4
    have mz : ∀ b, b ≠ 1 → M3 b = M b := fun b h => by rw [e3, ← fz b h]; funext y; rw [up_n h, up_n h, up_n h]
    have hb3 : CB M3 D n := ⟨hb.1, by rw [mk 2 (by decide) (by decide) (by decide)]; exact hb.2.1, fun j hj => by rw [mz 3 (by decide)]; exact hb.2.2 j hj⟩
    have pre : ev true 60 0 0 [pR 2 1] [] M X = ev true 60 0 117 [pR 2 1] [] M3 X := by
      rw [q60_0, h5, a1, q60_64, a2, st4, st2, ltT (by omega), S12b hb2 c, kb1, q60_101, S4 ⟨d1, d2⟩, kb1, q60_104, up_d (show (5 : Nat) ≠ 3 by decide), up_s, if_pos rfl, i_1, ii_add, ← e3]
    rcases hkd with hk | hk | hk
    · obtain ⟨M', b1, b2, b3, b4⟩ := S60b (X := X) hb3 (kk := kdC (D (bgT D n e))) (Or.inl hk) m3 (n - (bgT D n e + 1)) (bgT D n e + 1) M3 (by omega) m5 (fun _ _ => rfl) (fun _ _ => rfl)
      refine ⟨M', by rw [pre, b1], ⟨hg.2.1, by rw [b4 4 (by decide), m4], ?_, ?_⟩, ⟨fun b h => by rw [b3 b h, mz b h], fun k h => by rw [b4 k (by omega), mk k (by omega) (by omega) (by omega)]⟩, by rw [b4 6 (by decide), mk 6 (by decide) (by decide) (by decide)], by rw [b4 7 (by decide), mk 7 (by decide) (by decide) (by decide)]⟩
      · rw [b2]; unfold tE; rw [if_pos c, if_neg (by omega)]
      · rw [b4 3 (by decide), m3]; unfold tK; rw [if_pos c]
    · obtain ⟨M', b1, b2, b3, b4⟩ := S60b (X := X) hb3 (kk := kdC (D (bgT D n e))) (Or.inr hk) m3 (n - (bgT D n e + 1)) (bgT D n e + 1) M3 (by omega) m5 (fun _ _ => rfl) (fun _ _ => rfl)
      refine ⟨M', by rw [pre, b1], ⟨hg.2.1, by rw [b4 4 (by decide), m4], ?_, ?_⟩, ⟨fun b h => by rw [b3 b h, mz b h], fun k h => by rw [b4 k (by omega), mk k (by omega) (by omega) (by omega)]⟩, by rw [b4 6 (by decide), mk 6 (by decide) (by decide) (by decide)], by rw [b4 7 (by decide), mk 7 (by decide) (by decide) (by decide)]⟩
      · rw [b2]; unfold tE; rw [if_pos c, if_neg (by omega)]
      · rw [b4 3 (by decide), m3]; unfold tK; rw [if_pos c]
    · refine ⟨M3, ?_, ⟨hg.2.1, m4, ?_, ?_⟩, ⟨mz, fun k h => mk k (by omega) (by omega) (by omega)⟩, mk 6 (by decide) (by decide) (by decide), mk 7 (by decide) (by decide) (by decide)⟩
      · rw [pre, q60_117, m5, mk 2 (by decide) (by decide) (by decide), hb.2.1, m3, i_3, eqT hk, q60_170, ite_self]
      · rw [m5]; unfold tE; rw [if_pos c, if_pos hk]
      · rw [m3]; unfold tK; rw [if_pos c]
  · refine ⟨upM (upM M1 1 5 (ii (bgT D n e))) 1 3 (ii 0), ?_, ⟨hg.2.1, by rw [up_d (by decide)]; exact st4, ?_, ?_⟩, ⟨fun b h => ?_, fun k h => ?_⟩, ?_, ?_⟩
    · rw [q60_0, h5, a1, q60_64, a2, st4, st2, ltF (by omega), i_0]
    · rw [up_d (by decide), up_s, if_pos rfl, te_ge c]
    · rw [up_s, if_pos rfl]; unfold tK; rw [if_neg c]
    · rw [← fz b h]; funext y; rw [up_n h, up_n h]
    · rw [up_d (by omega), up_d (by omega)]; exact fk k (by omega)
    · rw [up_d (by decide), up_d (by decide)]; exact fk 6 (by decide)
    · rw [up_d (by decide), up_d (by decide)]; exact fk 7 (by decide)
def failS (c : Int) : PS → PS
  | .inl b => .inr (c, b)
  | .inr q => .inr q
def nextS (D : Nat → Int) (n : Nat) : PS → PS
  | .inl b => .inl (nxD D n b)
  | .inr q => .inr q
theorem S5 {P : PS} (h : CTP M D n P) (hc : 1 ≤ c ∧ c ≤ 5) : ∃ M', ev true 5 0 0 [pR 2 1, pI (ii c)] [] M X = some (.inl (some (pI (ii 0))), M', X) ∧ CTP M' D n (failS c P) ∧ FrC M M' := by
  obtain ⟨hb, ht⟩ := h
  cases P with
  | inl b =>
    obtain ⟨⟨b1, b2, b3, b4⟩, b5, b6⟩ := ht
    refine ⟨upM (upM M 1 6 (ii c)) 1 7 (ii b), ?_, ⟨⟨hb.1, by rw [up_d (by decide), up_d (by decide)]; exact hb.2.1, fun j hj => by rw [up_n (by decide), up_n (by decide)]; exact hb.2.2 j hj⟩, ⟨b, b1, by rw [up_d (by decide), up_d (by decide)]; exact b2, by rw [up_d (by decide), up_d (by decide)]; exact b3, by rw [up_d (by decide), up_d (by decide)]; exact b4⟩, by rw [up_d (by decide), up_s, if_pos rfl], hc, by rw [up_s, if_pos rfl], b1⟩, fun b h => by funext y; rw [up_n h, up_n h], fun k h => by rw [up_d (by omega), up_d (by omega)]⟩
    rw [q5_0, b5, i_0, eqT rfl, up_d (show (4 : Nat) ≠ 6 by decide), b2, q5_20, i_0]
  | inr q =>
    obtain ⟨f, p⟩ := q
    obtain ⟨h1, h2, h3, h4, h5⟩ := ht
    exact ⟨M, by rw [q5_0, h2, i_0, eqF (by omega), q5_20, i_0], ⟨hb, h1, h2, h3, h4, h5⟩, FrC.rf⟩
/-- next, ahead of which nothing is asked -/
theorem S60n {P : PS} (h : CTP M D n P) : ∃ M', ev true 60 0 0 [pR 2 1] [] M X = some (.inl none, M', X) ∧ CTP M' D n (nextS D n P) ∧ FrC M M' := by
  obtain ⟨hb, ht⟩ := h
  cases P with
  | inl b =>
    obtain ⟨⟨b1, b2, b3, b4⟩, b5, b6⟩ := ht
    obtain ⟨M', a1, a2, a3, a4, a5⟩ := S60 (X := X) hb (te_le (D := D) b1).2 b3
    exact ⟨M', a1, ⟨hb.fr a3, a2, by rw [a4]; exact b5, by rw [a5]; exact b6⟩, a3⟩
  | inr q =>
    obtain ⟨f, p⟩ := q
    obtain ⟨⟨b, b1, b2, b3, b4⟩, h2, h3, h4, h5⟩ := ht
    obtain ⟨M', a1, a2, a3, a4, a5⟩ := S60 (X := X) hb (te_le (D := D) b1).2 b3
    exact ⟨M', a1, ⟨hb.fr a3, ⟨_, a2⟩, by rw [a4]; exact h2, h3, by rw [a5]; exact h4, h5⟩, a3⟩
def ifS (D : Nat → Int) (n : Nat) (r : Bool) (P : PS) : PS := bif r then nextS D n P else failS 1 P
theorem S143 {P : PS} (h : CTP M D n P) (r : Bool) : ∃ M', ev true 143 0 0 [pR 2 1, pI (bI r)] [] M X = some (.inl none, M', X) ∧ CTP M' D n (ifS D n r P) ∧ FrC M M' := by
  rw [q143_0, i_0, bIT]
  cases r with
  | false =>
    obtain ⟨M', a1, a2, a3⟩ := S5 (X := X) h (c := 1) (by omega)
    exact ⟨M', by rw [cond_false, i_1, a1, kb1, q143_9, q143_24], a2, a3⟩
  | true =>
    cases P with
    | inl b =>
      obtain ⟨M', a1, a2, a3⟩ := S60n (X := X) h
      exact ⟨M', by rw [cond_true, h.2.2.1, eqT rfl, a1, kb0, q143_24], a2, a3⟩
    | inr q =>
      obtain ⟨f, p⟩ := q
      exact ⟨M, by rw [cond_true, h.2.2.1, eqF (by have := h.2.2.2.1; omega), q143_24], h, FrC.rf⟩
def sgB (D : Nat → Int) (n b : Nat) (c : Int) : Bool := decide (tK D n b = 3 ∧ D b = c)
theorem tk_in (b : Nat) : 0 ≤ tK D n b ∧ tK D n b ≤ 3 := by
  unfold tK
  have := kd_in (D b)
  split <;> omega
theorem tk_lt {b : Nat} (h : tK D n b ≠ 0) : b < n ∧ tK D n b = kdC (D b) := by
  unfold tK at h ⊢
  by_cases c : b < n
  · rw [if_pos c]; exact ⟨c, rfl⟩
  · rw [if_neg c] at h; exact absurd rfl h
theorem S62k {b : Nat} (hb : CB M D n) (h : CTk M D n b) (hc : 0 ≤ c ∧ c < 256) : ev true 62 0 0 [pR 2 1, pI (ii c)] [] M X = some (.inl (some (pI (bI (sgB D n b c)))), M, X) := by
  obtain ⟨b1, b2, b3, b4⟩ := h
  have h500 := hb.1
  have hk := tk_in (D := D) (n := n) b
  unfold sgB
  rw [q62_0, b4, i_3, ieq (by omega)]
  by_cases c1 : tK D n b = 3
  · obtain ⟨c2, -⟩ := tk_lt (D := D) (n := n) (b := b) (by omega)
    obtain ⟨-, d1, d2⟩ := hb.2.2 b c2
    rw [if_pos c1, b2, S12b hb c2, kb1, q62_19, ieq (by omega)]
    by_cases c3 : D b = c
    · rw [if_pos c3, i_1, q62_28, rk1, decide_eq_true ⟨c1, c3⟩]; rfl
    · rw [if_neg c3, q62_27, i_0, q62_28, rk0, decide_eq_false (fun z => c3 z.2)]; rfl
  · rw [if_neg c1, q62_27, i_0, q62_28, rk0, decide_eq_false (fun z => c1 z.1)]; rfl
theorem S62 {P : PS} (h : CTP M D n P) (hc : 0 ≤ c ∧ c < 256) : ∃ r : Bool, ev true 62 0 0 [pR 2 1, pI (ii c)] [] M X = some (.inl (some (pI (bI r))), M, X) ∧ ∀ b, P = .inl b → r = sgB D n b c := by
  obtain ⟨hb, ht⟩ := h
  cases P with
  | inl b => exact ⟨_, S62k hb ht.1 hc, fun b' e => by cases e; rfl⟩
  | inr q =>
    obtain ⟨f, p⟩ := q
    obtain ⟨⟨b, h1⟩, -⟩ := ht
    exact ⟨_, S62k hb h1 hc, fun b' e => by cases e⟩
def signS (D : Nat → Int) (n : Nat) (c : Int) : PS → PS
  | .inl b => bif sgB D n b c then .inl (nxD D n b) else .inr (1, b)
  | .inr q => .inr q
theorem S202 {P : PS} (h : CTP M D n P) (hc : 0 ≤ c ∧ c < 256) : ∃ M', ev true 202 0 0 [pR 2 1, pI (ii c)] [] M X = some (.inl none, M', X) ∧ CTP M' D n (signS D n c P) ∧ FrC M M' := by
  obtain ⟨r, r1, r2⟩ := S62 (X := X) h hc
  obtain ⟨M', a1, a2, a3⟩ := S143 (X := X) h r
  refine ⟨M', by rw [q202_0, r1, kb1, q202_6, a1, kb0, q202_9], ?_, a3⟩
  cases P with
  | inl b =>
    rw [r2 b rfl] at a2
    show CTP M' D n (bif sgB D n b c then .inl (nxD D n b) else .inr (1, b))
    cases hs : sgB D n b c with
    | false => rw [hs] at a2; exact a2
    | true => rw [hs] at a2; exact a2
  | inr q =>
    unfold ifS at a2
    cases r
    · exact a2
    · exact a2
end TOK
