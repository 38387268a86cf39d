/-! copies of plans -/
section CPP
set_option maxRecDepth 100000
variable {u s p v l t g n : Nat} {j k q e w c T tu nx off sh i z y N : Int} {A A' : AT} {M M' : Mem} {X : PX} {f : Nat}
theorem S169 (hl : rl (g + 7) = 500) (hu : rl (u + 7) = 500) (hd : g + 9 ≤ u ∨ u + 9 ≤ g) : ∃ M', ev true 169 0 0 [pR 12 g, pR 12 u] [] M X = some (.inl none, M', X) ∧ (∀ i, i < 500 → M' (g + 7 + 1) i = M (u + 7 + 1) i) ∧ M' g 2 = M u 2 ∧ (∀ b, b ≠ g → b ≠ g + 8 → M' b = M b) := by
  obtain ⟨M1, a1, c1, f1⟩ := S74c (M := M) (X := X) (t := g + 7) (u := u + 7) (n := 500) hl hu
  refine ⟨upM M1 g 2 (M1 u 2), ?_, fun i hi => ?_, ?_, fun b hb hc => ?_⟩
  · rw [q169_0, a1, kb0, q169_11]
  · rw [up_n (by omega), c1 i hi]
  · rw [up_s, if_pos rfl, f1 _ (by omega)]
  · funext i
    rw [up_n (by omega), f1 _ (by omega)]
/-- the plan at p has what the one at v had -/
def CPP (M M' : Mem) (v p : Nat) : Prop := (∀ i, i < 6 → M' (p + 2) i = M (v + 2) i) ∧ (∀ i, i < 6 → M' (p + 4) i = M (v + 4) i) ∧ (∀ i, i < 8 → M' (p + 6) i = M (v + 6) i) ∧ (∀ i, i < 8 → M' (p + 8) i = M (v + 8) i) ∧ (∀ i, i < 6 → M' (p + 10) i = M (v + 10) i) ∧ (∀ i, i < 6 → M' (p + 12) i = M (v + 12) i) ∧ (∀ i, i < 6 → M' (p + 14) i = M (v + 14) i) ∧ (∀ i, i < 6 → M' (p + 16) i = M (v + 16) i) ∧ (∀ i, i < 12 → M' (p + 18) i = M (v + 18) i) ∧ (∀ i, i < 12 → M' (p + 20) i = M (v + 20) i) ∧ (∀ i, i < 12 → M' (p + 22) i = M (v + 22) i) ∧ (∀ i, i < 12 → M' (p + 24) i = M (v + 24) i) ∧ (∀ i, i < 500 → M' (p + 33) i = M (v + 33) i) ∧ M' p 0 = M v 0 ∧ M' p 1 = M v 1 ∧ M' p 4 = M v 4 ∧ M' p 7 = M v 7 ∧ M' p 12 = M v 12 ∧ M' p 17 = M v 17 ∧ M' (p + 25) 2 = M (v + 25) 2
theorem S207 (hl : PlL p) (hu : PlL v) (hd : p + 35 ≤ v ∨ v + 35 ≤ p) (h17 : rOK 1 (M v 17) = true) : ∃ M', ev true 207 0 0 [pR 5 p, pR 5 v] [] M X = some (.inl none, M', X) ∧ CPP M M' v p ∧ ∀ b, b < p ∨ p + 34 ≤ b → M' b = M b := by
  obtain ⟨l1, l3, l5, l7, l9, l11, l13, l15, l17, l19, l21, l23, -, -, -, l32⟩ := hl
  obtain ⟨u1, u3, u5, u7, u9, u11, u13, u15, u17, u19, u21, u23, -, -, -, u32⟩ := hu
  obtain ⟨N0, eN0⟩ : ∃ N0, N0 = upM M p 0 (M v 0) := ⟨_, rfl⟩
  have fN0 : ∀ b, b ≠ p → N0 b = M b := fun b hb => by rw [eN0]; funext i; exact up_n hb
  have dN0 : ∀ i, i ≠ 0 → N0 p i = M p i := fun i hi => by rw [eN0]; exact up_d hi
  have cN0 : N0 p 0 = M v 0 := by rw [eN0, up_s, if_pos rfl]
  obtain ⟨N1, eN1⟩ : ∃ N1, N1 = upM N0 p 1 (N0 v 1) := ⟨_, rfl⟩
  have fN1 : ∀ b, b ≠ p → N1 b = N0 b := fun b hb => by rw [eN1]; funext i; exact up_n hb
  have dN1 : ∀ i, i ≠ 1 → N1 p i = N0 p i := fun i hi => by rw [eN1]; exact up_d hi
  have cN1 : N1 p 1 = N0 v 1 := by rw [eN1, up_s, if_pos rfl]
  obtain ⟨M1, aM1, cM1, fM1⟩ := S74c (M := N1) (X := X) (t := p + 1) (u := v + 1) (n := 6) l1 u1
  obtain ⟨M3, aM3, cM3, fM3⟩ := S74c (M := M1) (X := X) (t := p + 3) (u := v + 3) (n := 6) l3 u3
  obtain ⟨N4, eN4⟩ : ∃ N4, N4 = upM M3 p 4 (M3 v 4) := ⟨_, rfl⟩
  have fN4 : ∀ b, b ≠ p → N4 b = M3 b := fun b hb => by rw [eN4]; funext i; exact up_n hb
  have dN4 : ∀ i, i ≠ 4 → N4 p i = M3 p i := fun i hi => by rw [eN4]; exact up_d hi
  have cN4 : N4 p 4 = M3 v 4 := by rw [eN4, up_s, if_pos rfl]
  obtain ⟨M5, aM5, cM5, fM5⟩ := S74c (M := N4) (X := X) (t := p + 5) (u := v + 5) (n := 8) l5 u5
  obtain ⟨M7, aM7, cM7, fM7⟩ := S74c (M := M5) (X := X) (t := p + 7) (u := v + 7) (n := 8) l7 u7
  obtain ⟨N7, eN7⟩ : ∃ N7, N7 = upM M7 p 7 (M7 v 7) := ⟨_, rfl⟩
  have fN7 : ∀ b, b ≠ p → N7 b = M7 b := fun b hb => by rw [eN7]; funext i; exact up_n hb
  have dN7 : ∀ i, i ≠ 7 → N7 p i = M7 p i := fun i hi => by rw [eN7]; exact up_d hi
  have cN7 : N7 p 7 = M7 v 7 := by rw [eN7, up_s, if_pos rfl]
  obtain ⟨M9, aM9, cM9, fM9⟩ := S74c (M := N7) (X := X) (t := p + 9) (u := v + 9) (n := 6) l9 u9
  obtain ⟨M11, aM11, cM11, fM11⟩ := S74c (M := M9) (X := X) (t := p + 11) (u := v + 11) (n := 6) l11 u11
  obtain ⟨M13, aM13, cM13, fM13⟩ := S74c (M := M11) (X := X) (t := p + 13) (u := v + 13) (n := 6) l13 u13
  obtain ⟨M15, aM15, cM15, fM15⟩ := S74c (M := M13) (X := X) (t := p + 15) (u := v + 15) (n := 6) l15 u15
  obtain ⟨N12, eN12⟩ : ∃ N12, N12 = upM M15 p 12 (M15 v 12) := ⟨_, rfl⟩
  have fN12 : ∀ b, b ≠ p → N12 b = M15 b := fun b hb => by rw [eN12]; funext i; exact up_n hb
  have dN12 : ∀ i, i ≠ 12 → N12 p i = M15 p i := fun i hi => by rw [eN12]; exact up_d hi
  have cN12 : N12 p 12 = M15 v 12 := by rw [eN12, up_s, if_pos rfl]
  obtain ⟨M17, aM17, cM17, fM17⟩ := S74c (M := N12) (X := X) (t := p + 17) (u := v + 17) (n := 12) l17 u17
  obtain ⟨M19, aM19, cM19, fM19⟩ := S74c (M := M17) (X := X) (t := p + 19) (u := v + 19) (n := 12) l19 u19
  obtain ⟨M21, aM21, cM21, fM21⟩ := S74c (M := M19) (X := X) (t := p + 21) (u := v + 21) (n := 12) l21 u21
  obtain ⟨M23, aM23, cM23, fM23⟩ := S74c (M := M21) (X := X) (t := p + 23) (u := v + 23) (n := 12) l23 u23
  obtain ⟨N17, eN17⟩ : ∃ N17, N17 = upM M23 p 17 (M23 v 17) := ⟨_, rfl⟩
  have fN17 : ∀ b, b ≠ p → N17 b = M23 b := fun b hb => by rw [eN17]; funext i; exact up_n hb
  have dN17 : ∀ i, i ≠ 17 → N17 p i = M23 p i := fun i hi => by rw [eN17]; exact up_d hi
  have cN17 : N17 p 17 = M23 v 17 := by rw [eN17, up_s, if_pos rfl]
  obtain ⟨M32, a32, c32, c322, f32⟩ := S169 (M := N17) (X := X) (g := p + 25) (u := v + 25) l32 u32 (by omega)
  have h17a : rOK 1 (M23 v 17) = true := by
    simp (disch := omega) only [f32, fN17, fM23, fM21, fM19, fM17, fN12, fM15, fM13, fM11, fM9, fN7, fM7, fM5, fN4, fM3, fM1, fN1, fN0]
    exact h17
  refine ⟨M32, ?_, ⟨fun i hi => ?_, fun i hi => ?_, fun i hi => ?_, fun i hi => ?_, fun i hi => ?_, fun i hi => ?_, fun i hi => ?_, fun i hi => ?_, fun i hi => ?_, fun i hi => ?_, fun i hi => ?_, fun i hi => ?_, fun i hi => ?_, ?_, ?_, ?_, ?_, ?_, ?_, ?_⟩, fun b hb => ?_⟩
  · rw [q207_0, ← eN0, ← eN1, aM1, kb0, q207_27, aM3, kb0, q207_38, ← eN4, aM5, kb0, q207_57, aM7, kb0, q207_68, ← eN7, aM9, kb0, q207_87, aM11, kb0, q207_98, aM13, kb0, q207_109, aM15, kb0, q207_120, ← eN12, aM17, kb0, q207_139, aM19, kb0, q207_150, aM21, kb0, q207_161, aM23, kb0, q207_172, if_pos h17a, ← eN17, a32, kb0, q207_191]
  · simp (disch := omega) only [f32, fN17, fM23, fM21, fM19, fM17, fN12, fM15, fM13, fM11, fM9, fN7, fM7, fM5, fN4, fM3]
    refine Eq.trans (cM1 i hi) ?_
    simp (disch := omega) only [f32, fN17, fM23, fM21, fM19, fM17, fN12, fM15, fM13, fM11, fM9, fN7, fM7, fM5, fN4, fM3, fM1, fN1, fN0]
  · simp (disch := omega) only [f32, fN17, fM23, fM21, fM19, fM17, fN12, fM15, fM13, fM11, fM9, fN7, fM7, fM5, fN4]
    refine Eq.trans (cM3 i hi) ?_
    simp (disch := omega) only [f32, fN17, fM23, fM21, fM19, fM17, fN12, fM15, fM13, fM11, fM9, fN7, fM7, fM5, fN4, fM3, fM1, fN1, fN0]
  · simp (disch := omega) only [f32, fN17, fM23, fM21, fM19, fM17, fN12, fM15, fM13, fM11, fM9, fN7, fM7]
    refine Eq.trans (cM5 i hi) ?_
    simp (disch := omega) only [f32, fN17, fM23, fM21, fM19, fM17, fN12, fM15, fM13, fM11, fM9, fN7, fM7, fM5, fN4, fM3, fM1, fN1, fN0]
  · simp (disch := omega) only [f32, fN17, fM23, fM21, fM19, fM17, fN12, fM15, fM13, fM11, fM9, fN7]
    refine Eq.trans (cM7 i hi) ?_
    simp (disch := omega) only [f32, fN17, fM23, fM21, fM19, fM17, fN12, fM15, fM13, fM11, fM9, fN7, fM7, fM5, fN4, fM3, fM1, fN1, fN0]
  · simp (disch := omega) only [f32, fN17, fM23, fM21, fM19, fM17, fN12, fM15, fM13, fM11]
    refine Eq.trans (cM9 i hi) ?_
    simp (disch := omega) only [f32, fN17, fM23, fM21, fM19, fM17, fN12, fM15, fM13, fM11, fM9, fN7, fM7, fM5, fN4, fM3, fM1, fN1, fN0]
  · simp (disch := omega) only [f32, fN17, fM23, fM21, fM19, fM17, fN12, fM15, fM13]
    refine Eq.trans (cM11 i hi) ?_
    simp (disch := omega) only [f32, fN17, fM23, fM21, fM19, fM17, fN12, fM15, fM13, fM11, fM9, fN7, fM7, fM5, fN4, fM3, fM1, fN1, fN0]
  · simp (disch := omega) only [f32, fN17, fM23, fM21, fM19, fM17, fN12, fM15]
    refine Eq.trans (cM13 i hi) ?_
    simp (disch := omega) only [f32, fN17, fM23, fM21, fM19, fM17, fN12, fM15, fM13, fM11, fM9, fN7, fM7, fM5, fN4, fM3, fM1, fN1, fN0]
  · simp (disch := omega) only [f32, fN17, fM23, fM21, fM19, fM17, fN12]
    refine Eq.trans (cM15 i hi) ?_
    simp (disch := omega) only [f32, fN17, fM23, fM21, fM19, fM17, fN12, fM15, fM13, fM11, fM9, fN7, fM7, fM5, fN4, fM3, fM1, fN1, fN0]
  · simp (disch := omega) only [f32, fN17, fM23, fM21, fM19]
    refine Eq.trans (cM17 i hi) ?_
    simp (disch := omega) only [f32, fN17, fM23, fM21, fM19, fM17, fN12, fM15, fM13, fM11, fM9, fN7, fM7, fM5, fN4, fM3, fM1, fN1, fN0]
  · simp (disch := omega) only [f32, fN17, fM23, fM21]
    refine Eq.trans (cM19 i hi) ?_
    simp (disch := omega) only [f32, fN17, fM23, fM21, fM19, fM17, fN12, fM15, fM13, fM11, fM9, fN7, fM7, fM5, fN4, fM3, fM1, fN1, fN0]
  · simp (disch := omega) only [f32, fN17, fM23]
    refine Eq.trans (cM21 i hi) ?_
    simp (disch := omega) only [f32, fN17, fM23, fM21, fM19, fM17, fN12, fM15, fM13, fM11, fM9, fN7, fM7, fM5, fN4, fM3, fM1, fN1, fN0]
  · simp (disch := omega) only [f32, fN17]
    refine Eq.trans (cM23 i hi) ?_
    simp (disch := omega) only [f32, fN17, fM23, fM21, fM19, fM17, fN12, fM15, fM13, fM11, fM9, fN7, fM7, fM5, fN4, fM3, fM1, fN1, fN0]
  · refine Eq.trans (c32 i hi) ?_
    simp (disch := omega) only [f32, fN17, fM23, fM21, fM19, fM17, fN12, fM15, fM13, fM11, fM9, fN7, fM7, fM5, fN4, fM3, fM1, fN1, fN0]
  · simp (disch := omega) only [f32, fN17, fM23, fM21, fM19, fM17, fN12, fM15, fM13, fM11, fM9, fN7, fM7, fM5, fN4, fM3, fM1, fN1, dN17, dN12, dN7, dN4, dN1]
    refine Eq.trans cN0 ?_
    try simp (disch := omega) only [f32, fN17, fM23, fM21, fM19, fM17, fN12, fM15, fM13, fM11, fM9, fN7, fM7, fM5, fN4, fM3, fM1, fN1, fN0]
  · simp (disch := omega) only [f32, fN17, fM23, fM21, fM19, fM17, fN12, fM15, fM13, fM11, fM9, fN7, fM7, fM5, fN4, fM3, fM1, dN17, dN12, dN7, dN4]
    refine Eq.trans cN1 ?_
    try simp (disch := omega) only [f32, fN17, fM23, fM21, fM19, fM17, fN12, fM15, fM13, fM11, fM9, fN7, fM7, fM5, fN4, fM3, fM1, fN1, fN0]
  · simp (disch := omega) only [f32, fN17, fM23, fM21, fM19, fM17, fN12, fM15, fM13, fM11, fM9, fN7, fM7, fM5, dN17, dN12, dN7]
    refine Eq.trans cN4 ?_
    try simp (disch := omega) only [f32, fN17, fM23, fM21, fM19, fM17, fN12, fM15, fM13, fM11, fM9, fN7, fM7, fM5, fN4, fM3, fM1, fN1, fN0]
  · simp (disch := omega) only [f32, fN17, fM23, fM21, fM19, fM17, fN12, fM15, fM13, fM11, fM9, dN17, dN12]
    refine Eq.trans cN7 ?_
    try simp (disch := omega) only [f32, fN17, fM23, fM21, fM19, fM17, fN12, fM15, fM13, fM11, fM9, fN7, fM7, fM5, fN4, fM3, fM1, fN1, fN0]
  · simp (disch := omega) only [f32, fN17, fM23, fM21, fM19, fM17, dN17]
    refine Eq.trans cN12 ?_
    try simp (disch := omega) only [f32, fN17, fM23, fM21, fM19, fM17, fN12, fM15, fM13, fM11, fM9, fN7, fM7, fM5, fN4, fM3, fM1, fN1, fN0]
  · simp (disch := omega) only [f32]
    refine Eq.trans cN17 ?_
    try simp (disch := omega) only [f32, fN17, fM23, fM21, fM19, fM17, fN12, fM15, fM13, fM11, fM9, fN7, fM7, fM5, fN4, fM3, fM1, fN1, fN0]
  · refine Eq.trans c322 ?_
    simp (disch := omega) only [f32, fN17, fM23, fM21, fM19, fM17, fN12, fM15, fM13, fM11, fM9, fN7, fM7, fM5, fN4, fM3, fM1, fN1, fN0]
  · simp (disch := omega) only [f32, fN17, fM23, fM21, fM19, fM17, fN12, fM15, fM13, fM11, fM9, fN7, fM7, fM5, fN4, fM3, fM1, fN1, fN0]
end CPP
