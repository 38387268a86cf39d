/-! what a copy says -/
section CPV
set_option maxRecDepth 100000
variable {u s p l t g n : Nat} {j k q e w c T tu nx v off sh i z y N m : Int} {A A' : AT} {M M' : Mem} {X : PX} {f : Nat}
theorem cl_c {t v n : Nat} (h : ∀ i, i < n → M' (t + 1) i = M (v + 1) i) (h1 : 0 ≤ j) (h2 : j < n) : cl M' t j = cl M v j := h j.toNat (by omega)
theorem RW_c {t v n : Nat} (h : ∀ i, i < n → M' (t + 1) i = M (v + 1) i) (hr : RW M v m A f) (hm : m ≤ n) : RW M' t m A f := fun j a b => by
  rw [cl_c h a (by omega)]
  exact hr j a b
theorem STv_c (h : CPS M M' u s) (hs : STv M u A) (hi : INV A T) : STv M' s A := by
  obtain ⟨r2, r4, r6, r8, r10, r12, r15, r17, r19, r21, r23, r25, r27, r29, r31, r33, r35, r37, r39, r41, r43, r45, r48, k0, k17, k16, k7, k471, k472⟩ := h
  obtain ⟨s1, ⟨tu, s2⟩, s3, ⟨nx, s4⟩, s5, s6, s7, s8, s9, s10, s11, s12, s13, s14, s15, s16, s17⟩ := hs
  obtain ⟨g1, g2, g3, g4, g5, g6, g7, g8, g9, g10, g11, g12, g13, g14, g15⟩ := hi.1
  refine ⟨k0.trans s1, ⟨tu, ?_⟩, ?_, ⟨nx, ?_⟩, RW_c r21 s5 (by omega), RW_c r23 s6 (by omega), RW_c r25 s7 (by omega), RW_c r27 s8 (by omega), RW_c r29 s9 (by omega), RW_c r31 s10 (by omega), RW_c r33 s11 (by omega), RW_c r35 s12 (by omega), RW_c r37 s13 (by omega), RW_c r39 s14 (by omega), RW_c r41 s15 (by omega), RW_c r43 s16 (by omega), RW_c r45 s17 (by omega)⟩
  · obtain ⟨t1, t2, t3, t4, t5, t6⟩ := s2
    refine ⟨t1, t2, t3, k7.trans t4, k16.trans t5, fun q a b => ?_⟩
    have hc := cR_in t1 t2 a b
    obtain ⟨q1, q2, q3, q4, q5⟩ := t6 q a b
    rw [cl_c (t := s + 1 + 1) (v := u + 1 + 1) r2 hc.1 (by omega), cl_c (t := s + 1 + 3) (v := u + 1 + 3) r4 hc.1 (by omega), cl_c (t := s + 1 + 5) (v := u + 1 + 5) r6 hc.1 (by omega), cl_c (t := s + 1 + 7) (v := u + 1 + 7) r8 hc.1 (by omega), cl_c (t := s + 1 + 9) (v := u + 1 + 9) r10 hc.1 (by omega), cl_c (t := s + 1 + 11) (v := u + 1 + 11) r12 hc.1 (by omega)]
    exact ⟨q1, q2, q3, q4, q5⟩
  · intro j a b
    obtain ⟨q1, q2, q3, q4⟩ := s3 j a b
    refine ⟨q1, q2, (cl_c (t := s + 14 + 5) (v := u + 14 + 5) r19 a (by omega)).trans q3, fun k c d => ?_⟩
    obtain ⟨q5, q6⟩ := q4 k c d
    exact ⟨(cl_c (t := s + 14 + 1) (v := u + 14 + 1) r15 (by omega) (by omega)).trans q5, (cl_c (t := s + 14 + 3) (v := u + 14 + 3) r17 (by omega) (by omega)).trans q6⟩
  · obtain ⟨t1, t2, t3, t4, t5, t6, t7⟩ := s4
    refine ⟨t1, t2, k471.trans t3, k472.trans t4, t5, t6, fun a k b c d e => ?_⟩
    have hl : 0 ≤ lgR nx a ∧ lgR nx a < 40 := by unfold lgR; split <;> omega
    exact (cl_c (t := s + 47 + 1) (v := u + 47 + 1) r48 (by omega) (by omega)).trans (t7 a k b c d e)
/-- a state is copied -/
theorem S209v (hs : STv M u A) (hi : INV A T) (hl : StL s) (hu : StL u) (hd : s + 50 ≤ u ∨ u + 50 ≤ s) : ∃ M', ev true 209 0 0 [pR 6 s, pR 6 u] [] M X = some (.inl none, M', X) ∧ STv M' s A ∧ M' s 17 = M u 17 ∧ ∀ b, b < s ∨ s + 50 ≤ b → M' b = M b := by
  obtain ⟨M', a1, a2, a3⟩ := S209 (M := M) (X := X) hl hu hd
  exact ⟨M', a1, STv_c a2 hs hi, a2.2.2.2.2.2.2.2.2.2.2.2.2.2.2.2.2.2.2.2.2.2.2.2.2.1, a3⟩
end CPV
