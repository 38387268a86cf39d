/-! whether the law of turns looks at how late one is -/
section USE
set_option maxRecDepth 100000
variable {u s p v l t g n : Nat} {j k q e w c T T' tu tv nx off sh i z y N : Int} {A B A' : AT} {M M' : Mem} {X : PX} {f : Nat}
def useA (A : AT) (c : Int) : Bool := (List.range' 0 (A 81 0).toNat).any fun j => decide (A 80 j = -1 - c)
theorem any_c {P Q : Nat → Bool} : ∀ (l : List Nat), (∀ x, x ∈ l → P x = Q x) → l.any P = l.any Q
  | [], _ => rfl
  | x :: l, h => by
    rw [List.any_cons, List.any_cons, h x (List.mem_cons_self ..), any_c l fun y hy => h y (List.mem_cons_of_mem _ hy)]
theorem S105 (hp : PLv M p A) (hl : PlL p) (hw : LW A) (hc : 0 ≤ c ∧ c < 50) : ev true 105 0 0 [pR 12 (p + 25), pI (ii c)] [] M X = some (.inl (some (pI (bI (useA A c)))), M, X) := by
  have p16 := hp.2.2.2.2.2.2.2.2.2.2.2.2.2.2.2.1
  have p17 := hp.2.2.2.2.2.2.2.2.2.2.2.2.2.2.2.2
  have l32 : rl (p + 32) = 500 := hl.2.2.2.2.2.2.2.2.2.2.2.2.2.2.2
  obtain ⟨w1, w2, w3, -⟩ := hw
  have hS := S13 (t := p + 32) (v := ii (-1 - c)) (M := M) (X := X) (n := (A 81 0).toNat) (by unfold rl at l32; omega)
  rw [show (((A 81 0).toNat : Nat) : Int) = A 81 0 by omega] at hS
  have e : ((List.range' 0 (A 81 0).toNat).any fun j => decide (M (p + 32 + 1) j = ii (-1 - c))) = useA A c := by
    unfold useA
    refine any_c _ fun x hx => ?_
    have hx2 : x < (A 81 0).toNat := by
      have := (List.mem_range'_1.mp hx).2
      omega
    have h9 : M (p + 32 + 1) x = ii (A 80 x) := by
      have := p17 x (by omega) (by omega)
      unfold cl at this
      rw [show ((x : Nat) : Int).toNat = x by omega] at this
      exact this
    obtain ⟨b1, b2⟩ := w3 x (by omega) (by omega)
    rw [h9]
    by_cases hd : A 80 x = -1 - c
    · rw [hd, decide_eq_true rfl, decide_eq_true rfl]
    · rw [decide_eq_false hd, decide_eq_false (fun z => by
        have hz := ieq (a := A 80 x) (b := -1 - c) (x := True) (y := False) (by omega)
        rw [if_pos z, if_neg hd] at hz
        exact hz.mp trivial)]
  rw [e] at hS
  rw [q105_0, ii_m1, ii_sub, p16, show p + 25 + 7 = p + 32 from rfl, hS, kb1, q105_14]
  cases useA A c
  · rw [show bI false = ii 0 from rfl, rk0]
  · rw [show bI true = ii 1 from rfl, rk1]
end USE
