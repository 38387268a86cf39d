theorem ok_all : ∀ m, m < 312 → okM m = true := sorry
