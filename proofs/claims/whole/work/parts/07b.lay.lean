/-! the layout, by count -/
theorem lay_len : lay0.length = 829 := by decide +kernel
theorem ty_one (t b : Nat) (ht : t ≠ 0) (h : (List.range 829).all (fun a => !(Nat.beq (tyA a) t) || Nat.beq a b) = true) {a : Nat} (ha : tyA a = t) : a = b := by
  have h1 := List.all_eq_true.mp h a (List.mem_range.mpr (tyA_lt (by rw [ha]; exact ht)))
  rw [ha, Nat.beq_refl] at h1
  exact nbeq_t (by simpa using h1)
theorem long_one {a : Nat} (h : tyA a = 15) : a = 828 := ty_one 15 828 (by decide) (by decide +kernel) h
theorem acts_one {a : Nat} (h : tyA a = 16) : a = 134 := ty_one 16 134 (by decide) (by decide +kernel) h
theorem st_at : ∀ {k : Nat}, k < 10 → tyA (134 + 1 + 50 * k) = 6 := by
  have h : (List.range 10).all (fun k => Nat.beq (tyA (134 + 1 + 50 * k)) 6) = true := by decide +kernel
  intro k hk
  exact nbeq_t (List.all_eq_true.mp h k (List.mem_range.mpr hk))
