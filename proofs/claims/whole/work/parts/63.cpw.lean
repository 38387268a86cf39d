/-! what a plan's copy says -/
section CPW
set_option maxRecDepth 100000
variable {u s p v l t g n : Nat} {j k q e w c T tu nx off sh i z y N : Int} {A A' : AT} {M M' : Mem} {X : PX} {f : Nat}
theorem PLv_c (h : CPP M M' v p) (hp : PLv M v A) (hi : INV A T) (h81 : A 81 0 ≤ 500) : PLv M' p A := by
  obtain ⟨r1, r3, r5, r7, r9, r11, r13, r15, r17, r19, r21, r23, r32, k0, k1, k4, k7, k12, k17, k25⟩ := h
  obtain ⟨p1, p2, p3, p4, p5, p6, p7, p8, p9, p10, p11, p12, p13, p14, p15, p16, p17⟩ := hp
  obtain ⟨g1, g2, g3, g4, g5, g6, g7, g8, g9, g10, g11, g12, g13, g14, g15⟩ := hi.1
  exact ⟨k0.trans p1, k1.trans p2, k4.trans p3, k7.trans p4, k12.trans p5, k17.trans p6, RW_c r1 p7 (by omega), RW_c r3 p8 (by omega), RW_c r5 p9 (by omega), RW_c r7 p10 (by omega), RW_c r9 p11 (by omega), RW_c r17 p12 (by omega), RW_c r19 p13 (by omega), RW_c r21 p14 (by omega), RW_c r23 p15 (by omega), k25.trans p16, RW_c r32 p17 (by omega)⟩
/-- a plan is copied -/
theorem S207v (hp : PLv M v A) (hi : INV A T) (hw : LW A) (hl : PlL p) (hu : PlL v) (hd : p + 35 ≤ v ∨ v + 35 ≤ p) : ∃ M', ev true 207 0 0 [pR 5 p, pR 5 v] [] M X = some (.inl none, M', X) ∧ CPP M M' v p ∧ PLv M' p A ∧ ∀ b, b < p ∨ p + 34 ≤ b → M' b = M b := by
  have g := hi.1
  have h17 : rOK 1 (M v 17) = true := by
    rw [hp.2.2.2.2.2.1]
    rcases (by omega : A 0 9 = 0 ∨ A 0 9 = 1) with h | h <;> rw [h] <;> decide
  obtain ⟨M', a1, a2, a3⟩ := S207 (M := M) (X := X) hl hu hd h17
  exact ⟨M', a1, a2, PLv_c a2 hp hi hw.2.1, a3⟩
end CPW
