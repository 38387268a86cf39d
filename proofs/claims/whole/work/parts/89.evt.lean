/-! the reference's way through a text that is kept: bytes, numbers, words -/
section EVT
set_option maxRecDepth 100000
variable {z y a c d f lo hi v N j T : Int} {M M' M0 M1 M2 : Mem} {X : PX} {n m i e p t b x lv b0 e0 k : Nat} {D : Nat → Int} {A : AT}
def EC (M : Mem) (A : AT) (T j : Int) : Prop := WR M A T ∧ (0 ≤ j ∧ j < A 0 3) ∧ M 819 11 = ii j
def TV (M : Mem) (D : Nat → Int) (b0 e0 : Nat) : Prop := b0 ≤ e0 ∧ e0 ≤ 500 ∧ M 820 10 = ii ((e0 : Int) - b0) ∧ ∀ i, b0 ≤ i → i < e0 → M 820 (934 + (i - b0)) = ii (D i) ∧ 0 ≤ D i ∧ D i < 256
def FrE (M M' : Mem) : Prop := (∀ b, b ≠ 819 → M' b = M b) ∧ ∀ k, k ≠ 10 → M' 819 k = M 819 k
theorem FrE.rf : FrE M M := ⟨fun _ _ => rfl, fun _ _ => rfl⟩
theorem FrE.tr {M1 M2 M3 : Mem} (h1 : FrE M1 M2) (h2 : FrE M2 M3) : FrE M1 M3 := ⟨fun b h => (h2.1 b h).trans (h1.1 b h), fun k h => (h2.2 k h).trans (h1.2 k h)⟩
theorem FrE.up {v : Int32} : FrE M (upM M 819 10 v) := ⟨fun b h => by funext y; exact up_n h, fun k h => up_d h⟩
theorem EC.fr (h : EC M A T j) (hf : FrE M M') : EC M' A T j := ⟨WR_k h.1 (hf.1 820 (by decide)), h.2.1, (hf.2 11 (by decide)).trans h.2.2⟩
theorem TV.fr (h : TV M D b0 e0) (hf : FrE M M') : TV M' D b0 e0 := by
  have e := hf.1 820 (by decide)
  exact ⟨h.1, h.2.1, by rw [e]; exact h.2.2.1, fun i h1 h2 => by rw [e]; exact h.2.2.2 i h1 h2⟩
def AtB (D : Nat → Int) (x b : Nat) : Prop := x ≤ b ∧ ∀ i, x ≤ i → i < b → D i = 32 ∨ D i = 10
theorem AtB.rf : AtB D b b := ⟨Nat.le_refl _, fun i h1 h2 => by omega⟩
def NB (D : Nat → Int) (n b : Nat) : Prop := b < n → ¬ (D b = 32 ∨ D b = 10)
theorem nx_at (h : b ≤ n) : AtB D (tE D n b) (nxD D n b) ∧ NB D n (nxD D n b) := by
  have h1 := te_le (D := D) h
  obtain ⟨a1, a2, a3, a4⟩ := bg_in (D := D) h1.2
  exact ⟨⟨a1, a3⟩, a4⟩
theorem sk_eq : ∀ (m x b : Nat), AtB D x b → b ≤ x + m → (b < x + m → ¬ (D b = 32 ∨ D b = 10)) → skB D m x = b
  | 0, x, b, h, h1, _ => by have := h.1; show x = b; omega
  | m + 1, x, b, h, h1, h2 => by
    unfold skB
    rcases Nat.eq_or_lt_of_le h.1 with e | e
    · rw [if_neg (by rw [e]; exact h2 (by omega))]; exact e
    · rw [if_pos (h.2 x (Nat.le_refl _) e)]
      exact sk_eq m (x + 1) b ⟨e, fun i i1 i2 => h.2 i (by omega) i2⟩ (by omega) (fun w => h2 (by omega))
theorem tv_b (h : TV M D b0 e0) (h1 : b0 ≤ i) (h2 : i < e0) : (ii 934 + ii ((i : Int) - b0)).toNatClampNeg = 934 + (i - b0) := by
  have := h.2.1
  rw [ii_add, ii_nat (by omega) (by omega)]; omega
theorem S31l (ht : TV M0 D b0 e0) : ∀ (m x : Nat) (M : Mem), x + m = e0 → b0 ≤ x → FrE M0 M → M 819 10 = ii ((x : Int) - b0) → ∃ M', ev true 31 0 0 [pR 13 819] [] M X = some (.inl (some (pI (ii (btI D e0 (skB D m x))))), M', X) ∧ M' 819 10 = ii ((skB D m x : Int) - b0) ∧ FrE M0 M' := by
  intro m
  induction m with
  | zero =>
    intro x M h1 h2 h3 h4
    have hM := ht.fr h3
    have g := hM.2.1
    have g1 := hM.1
    refine ⟨M, ?_, h4, h3⟩
    rw [q31_0, i_10, inR (by omega), h4, hM.2.2.1, ltF (by omega), q31_63, i_10, inR (by omega), h4, hM.2.2.1, ltF (by omega), ii_m1, q31_94]
    unfold btI
    rw [if_neg (by show ¬ x < e0; omega)]
  | succ m ih =>
    intro x M h1 h2 h3 h4
    have hM := ht.fr h3
    have g := hM.2.1
    have g1 := hM.1
    obtain ⟨d0, d1, d2⟩ := hM.2.2.2 x h2 (by omega)
    have go : ∃ M', ev true 31 0 50 [pR 13 819] [] M X = some (.inl (some (pI (ii (btI D e0 (skB D m (x + 1)))))), M', X) ∧ M' 819 10 = ii ((skB D m (x + 1) : Int) - b0) ∧ FrE M0 M' := by
      obtain ⟨M', a1, a2⟩ := ih (x + 1) (upM M 819 10 (M 819 10 + 1)) (by omega) (by omega) (h3.tr FrE.up) (by rw [up_s, if_pos rfl, h4, i_1, ii_add]; congr 1; omega)
      exact ⟨M', by rw [← a1]; exact (q31_50 M X).trans (q31_0 (upM M 819 10 (M 819 10 + 1)) X).symm, a2⟩
    have e9 : ∀ {α : Sort _} {p q : α}, (if inB (ii 934 + ii ((x : Int) - b0)) (ln 820) = true then p else q) = p := by
      intro α p q
      rw [ii_add]
      exact inR (by omega)
    rw [q31_0, i_10, inR (by omega), h4, hM.2.2.1, ltT (by omega), i_934, e9, tv_b hM h2 (by omega), d0, i_32, ieq (by omega)]
    unfold skB
    by_cases c1 : D x = 32
    · rw [if_pos c1, if_pos (Or.inl c1)]
      exact go
    · rw [if_neg c1, e9, ieq (by omega)]
      by_cases c2 : D x = 10
      · rw [if_pos c2, if_pos (Or.inr c2)]
        exact go
      · rw [if_neg c2, if_neg (by omega)]
        refine ⟨M, ?_, h4, h3⟩
        rw [q31_63, i_10, inR (by omega), h4, hM.2.2.1, ltT (by omega), i_934, e9, tv_b hM h2 (by omega), d0, q31_94]
        unfold btI
        rw [if_pos (by omega)]
theorem S31 (ht : TV M D b0 e0) (h1 : b0 ≤ x) (h2 : AtB D x b) (h3 : b ≤ e0) (h4 : b < e0 → ¬ (D b = 32 ∨ D b = 10)) (h5 : M 819 10 = ii ((x : Int) - b0)) : ∃ M', ev true 31 0 0 [pR 13 819] [] M X = some (.inl (some (pI (ii (btI D e0 b)))), M', X) ∧ M' 819 10 = ii ((b : Int) - b0) ∧ FrE M M' := by
  have hx := h2.1
  obtain ⟨M', a1, a2, a3⟩ := S31l (X := X) ht (e0 - x) x M (by omega) h1 FrE.rf h5
  rw [sk_eq (e0 - x) x b h2 (by omega) (fun w => h4 (by omega))] at a1 a2
  exact ⟨M', a1, a2, a3⟩
/-- digits, capped as a text's numbers are -/
def nuG (D : Nat → Int) : Nat → Nat → Int → Int
  | 0, _, v => v
  | m + 1, i, v => nuG D m (i + 1) (if 10 * v + D i - 48 < 9999 then 10 * v + D i - 48 else 9999)
theorem nuF_ge : ∀ (m i : Nat) (v : Int), (∀ j, i ≤ j → j < i + m → 48 ≤ D j ∧ D j ≤ 57) → 0 ≤ v ∧ v ≤ 1000000 → v ≤ nuF D m i v
  | 0, _, _, _, _ => Int.le_refl _
  | m + 1, i, v, hd, h => by
    unfold nuF
    have := hd i (Nat.le_refl _) (by omega)
    have hh := nuF_ge m (i + 1) (if 1000000 < v * 10 + D i - 48 then 1000000 else v * 10 + D i - 48) (fun j h1 h2 => hd j (by omega) (by omega)) (by split <;> omega)
    refine Int.le_trans ?_ hh
    split <;> omega
theorem nuG_F : ∀ (m i : Nat) (v : Int), (∀ j, i ≤ j → j < i + m → 48 ≤ D j ∧ D j ≤ 57) → 0 ≤ v ∧ v ≤ 9999 → nuF D m i v ≤ 9999 → nuG D m i v = nuF D m i v
  | 0, _, _, _, _, _ => rfl
  | m + 1, i, v, hd, h, h1 => by
    have hi := hd i (Nat.le_refl _) (by omega)
    have hh := nuF_ge m (i + 1) (if 1000000 < v * 10 + D i - 48 then 1000000 else v * 10 + D i - 48) (fun j h1 h2 => hd j (by omega) (by omega)) (by split <;> omega)
    unfold nuG nuF
    unfold nuF at h1
    have hv : v * 10 + D i - 48 ≤ 9999 := by
      have h2 := Int.le_trans hh h1
      split at h2 <;> omega
    rw [if_neg (show ¬ 1000000 < v * 10 + D i - 48 by omega)] at h1 ⊢
    have e : (if 10 * v + D i - 48 < 9999 then 10 * v + D i - 48 else 9999) = v * 10 + D i - 48 := by split <;> omega
    rw [e]
    exact nuG_F m (i + 1) _ (fun j h1 h2 => hd j (by omega) (by omega)) (by omega) h1
theorem S284a {x1 x2 : Int32} (ht : TV M0 D b0 e0) (he : e ≤ e0) (hs : e < e0 → ¬ (48 ≤ D e ∧ D e ≤ 57)) : ∀ (m i : Nat) (v : Int) (M : Mem), i + m = e → b0 ≤ i → (∀ q, i ≤ q → q < e → 48 ≤ D q ∧ D q ≤ 57) → 0 ≤ v ∧ v ≤ 9999 → FrE M0 M → M 819 10 = ii ((i : Int) - b0) → ∃ M', ev true 284 lv 50 [pR 13 819, pI x1, pI x2, pI (ii v)] [] M X = ev true 284 lv 124 [pR 13 819, pI x1, pI x2, pI (ii (nuG D m i v))] [] M' X ∧ M' 819 10 = ii ((e : Int) - b0) ∧ FrE M0 M' := by
  intro m
  induction m with
  | zero =>
    intro i v M h1 h2 hd hv h3 h4
    have hM := ht.fr h3
    have g := hM.2.1
    have g1 := hM.1
    have ei : i = e := by omega
    subst ei
    refine ⟨M, ?_, h4, h3⟩
    rw [q284_50, i_10, inR (by omega), h4, hM.2.2.1, ilt (by omega)]
    by_cases c : i < e0
    · obtain ⟨d0, d1, d2⟩ := hM.2.2.2 i h2 c
      rw [if_pos (by omega), i_934, ii_add, inR (by omega), ← ii_add, tv_b hM h2 c, d0, S32x (by omega), kb1, q284_80, i_0, bIT, decide_eq_false (hs c), cond_false]
      rfl
    · rw [if_neg (by omega)]
      rfl
  | succ m ih =>
    intro i v M h1 h2 hd hv h3 h4
    have hM := ht.fr h3
    have g := hM.2.1
    have g1 := hM.1
    obtain ⟨d0, d1, d2⟩ := hM.2.2.2 i h2 (by omega)
    have hi := hd i (Nat.le_refl _) (by omega)
    obtain ⟨M', a1, a2⟩ := ih (i + 1) (if 10 * v + D i - 48 < 9999 then 10 * v + D i - 48 else 9999) (upM M 819 10 (ii ((i : Int) - b0) + 1)) (by omega) (by omega) (fun q q1 q2 => hd q (by omega) q2) (by split <;> omega) (h3.tr FrE.up) (by rw [up_s, if_pos rfl, i_1, ii_add]; congr 1; omega)
    refine ⟨M', ?_, a2⟩
    have e1 : (if ii (10 * v + D i - 48) < ii 9999 then ii (10 * v + D i - 48) else ii 9999) = ii (if 10 * v + D i - 48 < 9999 then 10 * v + D i - 48 else 9999) := by
      rw [ilt (by omega)]; split <;> rfl
    rw [q284_50, i_10, inR (by omega), h4, hM.2.2.1, ltT (by omega), i_934, ii_add, inR (by omega), ← ii_add, tv_b hM h2 (by omega), d0, S32x (by omega), kb1, q284_80, i_0, bIT, decide_eq_true hi, cond_true, h4, i_934, ii_add, inR (by omega), ← ii_add, tv_b hM h2 (by omega), d0, i_10, ii_mul, ii_add, i_48, ii_sub, i_9999, e1, q284_110, h4, a1]
    rfl
theorem S284b {x1 x2 x3 : Int32} (ht : TV M0 D b0 e0) (he : e ≤ e0) (hs : e < e0 → ¬ (97 ≤ D e ∧ D e ≤ 122)) : ∀ (m i : Nat) (M : Mem), i + m = e → b0 ≤ i → (∀ q, i ≤ q → q < e → 97 ≤ D q ∧ D q ≤ 122) → FrE M0 M → M 819 10 = ii ((i : Int) - b0) → ∃ M', ev true 284 lv 124 [pR 13 819, pI x1, pI x2, pI x3] [] M X = ev true 284 lv 170 [pR 13 819, pI x1, pI x2, pI x3] [] M' X ∧ M' 819 10 = ii ((e : Int) - b0) ∧ FrE M0 M' := by
  intro m
  induction m with
  | zero =>
    intro i M h1 h2 hd h3 h4
    have hM := ht.fr h3
    have g := hM.2.1
    have g1 := hM.1
    have ei : i = e := by omega
    subst ei
    refine ⟨M, ?_, h4, h3⟩
    rw [q284_124, i_10, inR (by omega), h4, hM.2.2.1, ilt (by omega)]
    by_cases c : i < e0
    · obtain ⟨d0, d1, d2⟩ := hM.2.2.2 i h2 c
      rw [if_pos (by omega), i_934, ii_add, inR (by omega), ← ii_add, tv_b hM h2 c, d0, S33 (by omega), kb1, q284_154, i_0, bIT, decide_eq_false (hs c), cond_false]
    · rw [if_neg (by omega)]
  | succ m ih =>
    intro i M h1 h2 hd h3 h4
    have hM := ht.fr h3
    have g := hM.2.1
    have g1 := hM.1
    obtain ⟨d0, d1, d2⟩ := hM.2.2.2 i h2 (by omega)
    have hi := hd i (Nat.le_refl _) (by omega)
    obtain ⟨M', a1, a2⟩ := ih (i + 1) (upM M 819 10 (ii ((i : Int) - b0) + 1)) (by omega) (by omega) (fun q q1 q2 => hd q (by omega) q2) (h3.tr FrE.up) (by rw [up_s, if_pos rfl, i_1, ii_add]; congr 1; omega)
    refine ⟨M', ?_, a2⟩
    rw [q284_124, i_10, inR (by omega), h4, hM.2.2.1, ltT (by omega), i_934, ii_add, inR (by omega), ← ii_add, tv_b hM h2 (by omega), d0, S33 (by omega), kb1, q284_154, i_0, bIT, decide_eq_true hi, cond_true, h4, a1]
/-- parts by their words -/
noncomputable def paI (D : Nat → Int) (n b : Nat) : Int := if wdB D n b 3 = true then 0 else if wdB D n b 16 = true then 1 else if wdB D n b 20 = true then 2 else if wdB D n b 14 = true then 3 else if wdB D n b 7 = true then 4 else if wdB D n b 8 = true then 5 else if wdB D n b 19 = true then 6 else if wdB D n b 17 = true then 7 else -1
def paT : List (Nat × Int × Int × Int) := [(3, 0, 99, 114), (16, 1, 115, 104), (20, 2, 119, 97), (14, 3, 114, 111), (7, 4, 104, 101), (8, 5, 108, 97), (19, 6, 117, 114), (17, 7, 115, 105)]
theorem pa_in : paI D n b = -1 ∨ ∃ t k x1 x2, (t, k, x1, x2) ∈ paT ∧ paI D n b = k ∧ wdP D n b t := by
  unfold paI
  by_cases c1 : wdB D n b 3 = true
  · rw [if_pos c1]; exact Or.inr ⟨3, 0, 99, 114, by decide, rfl, wdB_t.1 c1⟩
  rw [if_neg c1]
  by_cases c2 : wdB D n b 16 = true
  · rw [if_pos c2]; exact Or.inr ⟨16, 1, 115, 104, by decide, rfl, wdB_t.1 c2⟩
  rw [if_neg c2]
  by_cases c3 : wdB D n b 20 = true
  · rw [if_pos c3]; exact Or.inr ⟨20, 2, 119, 97, by decide, rfl, wdB_t.1 c3⟩
  rw [if_neg c3]
  by_cases c4 : wdB D n b 14 = true
  · rw [if_pos c4]; exact Or.inr ⟨14, 3, 114, 111, by decide, rfl, wdB_t.1 c4⟩
  rw [if_neg c4]
  by_cases c5 : wdB D n b 7 = true
  · rw [if_pos c5]; exact Or.inr ⟨7, 4, 104, 101, by decide, rfl, wdB_t.1 c5⟩
  rw [if_neg c5]
  by_cases c6 : wdB D n b 8 = true
  · rw [if_pos c6]; exact Or.inr ⟨8, 5, 108, 97, by decide, rfl, wdB_t.1 c6⟩
  rw [if_neg c6]
  by_cases c7 : wdB D n b 19 = true
  · rw [if_pos c7]; exact Or.inr ⟨19, 6, 117, 114, by decide, rfl, wdB_t.1 c7⟩
  rw [if_neg c7]
  by_cases c8 : wdB D n b 17 = true
  · rw [if_pos c8]; exact Or.inr ⟨17, 7, 115, 105, by decide, rfl, wdB_t.1 c8⟩
  rw [if_neg c8]
  exact Or.inl rfl
theorem paT_ok : ∀ q ∈ paT, 4 ≤ sln q.1 ∧ (sch q.1 0 : Int) = q.2.2.1 ∧ (sch q.1 1 : Int) = q.2.2.2 ∧ 0 ≤ q.2.1 ∧ q.2.1 ≤ 7 := by decide +kernel
theorem S178 {q : Nat × Int × Int × Int} (h : EC M A T j) (hq : q ∈ paT) : ev true 178 0 0 [pR 13 819, pI (ii q.2.2.1), pI (ii q.2.2.2)] [] M X = some (.inl (some (pI (pvA A j q.2.1))), M, X) := by
  obtain ⟨hw, ⟨j1, j2⟩, h11⟩ := h
  have g := hw.2.1.1
  obtain ⟨v0, v1, v2, v3, v4, v5, v6, v7, v8, v9⟩ := hw.1.2.2.2.1 j j1 (by omega)
  rw [q178_0, h11, i_99, i_104, i_108, i_114, i_115, i_119]
  unfold paT at hq
  simp only [List.mem_cons, List.not_mem_nil, or_false] at hq
  rcases hq with e | e | e | e | e | e | e | e
  · rw [e, eqT rfl, i_5, S25 (by omega), kb1, v5, q178_69]; rfl
  · rw [e, eqF (by decide), eqF (by decide), eqF (by decide), eqF (by decide), eqT rfl, eqT rfl, i_3, S25 (by omega), kb1, v3, q178_85, q178_92]; rfl
  · rw [e, eqF (by decide), eqF (by decide), eqF (by decide), eqF (by decide), eqF (by decide), eqT rfl, i_4, S25 (by omega), kb1, v4, q178_102]; rfl
  · rw [e, eqF (by decide), eqF (by decide), eqF (by decide), eqT rfl, i_1, S25 (by omega), kb1, v1, q178_112]; rfl
  · rw [e, eqF (by decide), eqT rfl, S117 hw j1 j2, kb1, q178_121]; rfl
  · rw [e, eqF (by decide), eqF (by decide), eqT rfl, S118 hw j1 j2, kb1, q178_130]; rfl
  · rw [e, eqF (by decide), eqF (by decide), eqF (by decide), eqF (by decide), eqF (by decide), eqF (by decide), S119 hw j1 j2, kb1, q178_139]; rfl
  · rw [e, eqF (by decide), eqF (by decide), eqF (by decide), eqF (by decide), eqT rfl, eqF (by decide), q178_92]; rfl
/-- the value of what stands from b to b1 -/
def EvG (D : Nat → Int) (n id : Nat) (ls : List PV) (L b b1 : Nat) (v : (Int → Int32) → Int32) : Prop :=
  ∀ (M : Mem) (X : PX) (A : AT) (T j : Int) (b0 e0 x lv : Nat), lv ≤ L → EC M A T j → TV M D b0 e0 → e0 ≤ n → b0 ≤ x → AtB D x b → b1 ≤ e0 → (b1 < e0 → ¬ (97 ≤ D b1 ∧ D b1 ≤ 122)) → M 819 10 = ii ((x : Int) - b0) → ∃ (M' : Mem) (y : Nat), ev true id lv 0 ls [] M X = some (.inl (some (pI (v (pvA A j)))), M', X) ∧ M' 819 10 = ii ((y : Int) - b0) ∧ AtB D y b1 ∧ b0 ≤ y ∧ FrE M M'
theorem ev_num (hb : tK D n b = 2) (hv : nuV D n b ≤ 9999) (hnb : NB D n b) : EvG D n 284 [pR 13 819, p0, p0, p0] 30 b (nxD D n b) (fun _ => ii (nuV D n b)) := by
  intro M X A T j b0 e0 x lv hl hE hT he hx hat h1 h2 h10
  obtain ⟨k1, k2, k3, k4⟩ := tk_dig hb
  have hn := nx_at (D := D) (Nat.le_of_lt k1)
  have hge := hn.1.1
  have hvi := nuV_in hb
  have e500 := hT.2.1
  have hxb := hat.1
  have hk := tk_lt (D := D) (n := n) (b := b) (by omega)
  have hdb := k4 b (Nat.le_refl _) (by omega)
  have hend : tE D n b < e0 → ¬ (48 ≤ D (tE D n b) ∧ D (tE D n b) ≤ 57) := by
    intro w c
    have h4 := (te_in (D := D) k1).2.2.2 (by omega) (by omega)
    apply h4
    have : kdC (D (tE D n b)) = 2 := by unfold kdC; rw [if_neg (by omega), if_pos c]
    omega
  have hend2 : tE D n b < e0 → ¬ (97 ≤ D (tE D n b) ∧ D (tE D n b) ≤ 122) := by
    intro w c
    rcases Nat.eq_or_lt_of_le hge with e | e
    · rw [e] at w c
      exact h2 w c
    · have := hn.1.2 (tE D n b) (Nat.le_refl _) e
      omega
  obtain ⟨M1, a1, a2, a3⟩ := S31 (X := X) hT hx hat (by omega) (fun w => hnb (by omega)) h10
  obtain ⟨M2, b1, b2, b3⟩ := S284a (X := X) (lv := lv) (x1 := ii (D b)) (x2 := ii ((b : Int) - b0)) (hT.fr a3) (by omega) hend (tE D n b - b) b 0 M1 (by omega) (by omega) k4 (by omega) FrE.rf a2
  obtain ⟨M3, c1, c2, c3⟩ := S284b (X := X) (lv := lv) (x1 := ii (D b)) (x2 := ii ((b : Int) - b0)) (x3 := ii (nuG D (tE D n b - b) b 0)) (hT.fr (a3.tr b3)) (by omega) hend2 0 (tE D n b) M2 (by omega) (by omega) (fun q q1 q2 => by omega) FrE.rf b2
  refine ⟨M3, tE D n b, ?_, c2, hn.1, by omega, a3.tr (b3.tr c3)⟩
  have eb : btI D e0 b = D b := by unfold btI; rw [if_pos (by omega)]
  have eg : nuG D (tE D n b - b) b 0 = nuV D n b := nuG_F _ _ _ (fun q q1 q2 => k4 q q1 (by omega)) (by omega) hv
  rw [q284_0, a1, kb1, eb, q284_4, i_40, eqF (by omega), a2, i_0, b1, c1, q284_170, S32x (by omega), kb1, q284_174, i_0, bIT, decide_eq_true hdb, cond_true, q284_198, eg]
theorem ev_wrd {q : Nat × Int × Int × Int} (hq : q ∈ paT) (hw : wdP D n b q.1) (hnb : NB D n b) : EvG D n 284 [pR 13 819, p0, p0, p0] 30 b (nxD D n b) (fun pv => pv q.2.1) := by
  intro M X A T j b0 e0 x lv hl hE hT he hx hat h1 h2 h10
  obtain ⟨w1, w2, w3⟩ := hw
  obtain ⟨p1, p2, p3, p4, p5⟩ := paT_ok q hq
  obtain ⟨k1, k5⟩ := tk_lt (D := D) (n := n) (b := b) (by omega)
  obtain ⟨k3, k2, k6, k7⟩ := te_in (D := D) k1
  have hn := nx_at (D := D) (Nat.le_of_lt k1)
  have hge := hn.1.1
  have e500 := hT.2.1
  have hxb := hat.1
  have hlet : ∀ r, b ≤ r → r < tE D n b → 97 ≤ D r ∧ D r ≤ 122 := fun r r1 r2 => kd_1 (by rw [k6 r r1 r2]; omega)
  have hd0 := hlet b (Nat.le_refl _) (by omega)
  have hd1 := hlet (b + 1) (by omega) (by omega)
  have hend : tE D n b < e0 → ¬ (97 ≤ D (tE D n b) ∧ D (tE D n b) ≤ 122) := by
    intro w c
    apply k7 (by omega) (by omega)
    have : kdC (D (tE D n b)) = 1 := by unfold kdC; rw [if_pos c]
    omega
  have f0 : D b = q.2.2.1 := by have := w3 0 (by omega); rw [Nat.add_zero] at this; rw [this, p2]
  have f1 : D (b + 1) = q.2.2.2 := by rw [w3 1 (by omega), p3]
  obtain ⟨M1, a1, a2, a3⟩ := S31 (X := X) hT hx hat (by omega) (fun w => hnb (by omega)) h10
  obtain ⟨M2, b1, b2, b3⟩ := S284a (X := X) (lv := lv) (x1 := ii (D b)) (x2 := ii ((b : Int) - b0)) (e := b) (hT.fr a3) (by omega) (fun _ => by omega) 0 b 0 M1 (by omega) (by omega) (fun q q1 q2 => by omega) (by omega) FrE.rf a2
  obtain ⟨M3, c1, c2, c3⟩ := S284b (X := X) (lv := lv) (x1 := ii (D b)) (x2 := ii ((b : Int) - b0)) (x3 := ii (nuG D 0 b 0)) (hT.fr (a3.tr b3)) (by omega) hend (tE D n b - b) b M2 (by omega) (by omega) hlet FrE.rf b2
  have hT3 := hT.fr (a3.tr (b3.tr c3))
  obtain ⟨t0, t1, t2⟩ := hT3.2.2.2 (b + 1) (by omega) (by omega)
  refine ⟨M3, tE D n b, ?_, c2, hn.1, by omega, a3.tr (b3.tr c3)⟩
  have eb : btI D e0 b = D b := by unfold btI; rw [if_pos (by omega)]
  have hidx : (ii 934 + ii ((b : Int) - b0) + ii 1).toNatClampNeg = 934 + (b + 1 - b0) := by
    rw [ii_add, ii_add, ii_nat (by omega) (by omega)]; omega
  rw [q284_0, a1, kb1, eb, q284_4, i_40, eqF (by omega), a2, i_0, b1, c1, q284_170, S32x (by omega), kb1, q284_174, i_0, bIT, decide_eq_false (by omega), cond_false, i_934, i_1, hidx, t0, ii_add, ii_add, inR (by omega), f0, f1, S178 (hE.fr (a3.tr (b3.tr c3))) hq, kb1, q284_198]
end EVT
