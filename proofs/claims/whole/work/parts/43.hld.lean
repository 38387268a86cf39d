/-! counts: what is reserved -/
section HLDS
set_option maxRecDepth 100000
variable {u s p l t g : Nat} {j k q e w c T tu nx v off : Int} {A A' : AT} {M M' : Mem} {X : PX} {f : Nat}
def cnI (P : Int → Bool) : Nat → Int
  | 0 => 0
  | n + 1 => cnI P n + (if P n then 1 else 0)
theorem cnI_in (P : Int → Bool) : ∀ n : Nat, 0 ≤ cnI P n ∧ cnI P n ≤ n
  | 0 => ⟨Int.le_refl _, Int.le_refl _⟩
  | n + 1 => by
    have := cnI_in P n
    unfold cnI
    split <;> omega
theorem cnI_c {P Q : Int → Bool} : ∀ {n : Nat}, (∀ y : Int, 0 ≤ y → y < n → P y = Q y) → cnI P n = cnI Q n
  | 0, _ => rfl
  | n + 1, h => by
    unfold cnI
    rw [cnI_c (n := n) fun y a b => h y a (by omega), h n (by omega) (by omega)]
/-- one place is another -/
theorem cnI_u {P Q : Int → Bool} {x : Int} : ∀ {n : Nat}, 0 ≤ x → x < n → (∀ y : Int, 0 ≤ y → y < n → y ≠ x → P y = Q y) → cnI P n = cnI Q n + (if P x then 1 else 0) - (if Q x then 1 else 0)
  | 0, h1, h2, _ => by omega
  | n + 1, h1, h2, h => by
    unfold cnI
    by_cases hx : x = n
    · subst hx
      rw [cnI_c (n := n) fun y a b => h y a (by omega) (by omega)]
      omega
    · rw [cnI_u (n := n) h1 (by omega) fun y a b d => h y a (by omega) d, h n (by omega) (by omega) (fun z => hx z.symm)]
      omega
theorem cnI_s (P : Int → Bool) : ∀ n : Nat, cnI P (n + 1) = (if P 0 then 1 else 0) + cnI (fun y => P (y + 1)) n
  | 0 => by show 0 + (if P 0 then 1 else 0) = (if P 0 then 1 else 0) + 0; omega
  | n + 1 => by
    show cnI P (n + 1) + (if P ((n + 1 : Nat) : Int) then 1 else 0) = _
    rw [cnI_s P n]
    show _ = (if P 0 then 1 else 0) + (cnI (fun y => P (y + 1)) n + (if P ((n : Int) + 1) then 1 else 0))
    have e : ((n + 1 : Nat) : Int) = (n : Int) + 1 := rfl
    rw [e]
    omega
/-- all go one place on -/
theorem cnI_p (P : Int → Bool) {n : Nat} (hn : 0 < n) : cnI (fun y => P (prv n y)) n = cnI P n := by
  obtain ⟨m, rfl⟩ : ∃ m, n = m + 1 := ⟨n - 1, by omega⟩
  rw [cnI_s]
  have e1 : prv ((m + 1 : Nat) : Int) 0 = m := by unfold prv; rw [if_pos rfl]; omega
  rw [e1, cnI_c (n := m) (P := fun y => P (prv ((m + 1 : Nat) : Int) (y + 1))) (Q := P) (fun y a b => by
    have : prv ((m + 1 : Nat) : Int) (y + 1) = y := by unfold prv; rw [if_neg (by omega)]; omega
    rw [this])]
  show (if P (m : Int) then 1 else 0) + cnI P m = cnI P m + (if P (m : Int) then 1 else 0)
  omega
def HLD (A : AT) : Prop := ∀ j, 0 ≤ j → j < A 0 3 → A 90 j = cnI (fun q => decide (A 25 q = j)) (A 0 0).toNat
theorem HLD.in (h : HLD A) (hi : INV A T) (h1 : 0 ≤ j) (h2 : j < A 0 3) : 0 ≤ A 90 j ∧ A 90 j ≤ 40 := by
  have g := hi.1
  have := cnI_in (fun q => decide (A 25 q = j)) (A 0 0).toNat
  rw [h j h1 h2]
  omega
theorem HLD.mv (h : HLD A) (h0 : A' 0 0 = A 0 0) (h3 : A' 0 3 = A 0 3) (h25 : A' 25 = A 25) (h90 : A' 90 = A 90) : HLD A' := by
  unfold HLD
  rw [h0, h3, h25, h90]
  exact h
theorem come_HLD (h : HLD A) : HLD (comeA off A c) := by
  refine h.mv come_SP.1 come_SP.2.2.2.1 ?_ ?_
  · unfold comeA
    split
    · rfl
    · split
      · rw [upA_f (by decide), upA_f (by decide)]
      · exact joinA_f (by decide) (by decide) (by decide)
  · unfold comeA
    split
    · rfl
    · split
      · rw [upA_f (by decide), upA_f (by decide)]
      · exact joinA_f (by decide) (by decide) (by decide)
theorem comes_HLD : ∀ (n : Nat) (c : Int) (A : AT), HLD A → HLD (comesA off n c A)
  | 0, _, _, h => h
  | n + 1, c, A, h => comes_HLD n (c + 1) _ (come_HLD h)
theorem comes_SP : ∀ (n : Nat) (c : Int) (A : AT), SP A (comesA off n c A)
  | 0, _, _ => SP.rf
  | n + 1, c, A => come_SP.tr (comes_SP n (c + 1) _)
theorem comes_tick : ∀ (n : Nat) (c : Int) (A : AT), comesA off n c A 0 5 = A 0 5
  | 0, _, _ => rfl
  | n + 1, c, A => (comes_tick n (c + 1) _).trans come_tick
theorem exit_HLD (h : HLD A) : HLD (exitA A e) := by
  by_cases c : exitB A e
  · rw [exitA_t c]
    exact h.mv tak_SP.1 tak_SP.2.2.2.1 (takA_f (by decide) (by decide) (by decide) (by decide) (by decide) (by decide) (by decide) (by decide) (by decide) (by decide)) (takA_f (by decide) (by decide) (by decide) (by decide) (by decide) (by decide) (by decide) (by decide) (by decide) (by decide))
  · rw [exitA_n c]; exact h
theorem exits_HLD : ∀ (n : Nat) (e : Int) (A : AT), HLD A → HLD (exitsA n e A)
  | 0, _, _, h => h
  | n + 1, e, A, h => exits_HLD n (e + 1) _ (exit_HLD h)
theorem exits_SP : ∀ (n : Nat) (e : Int) (A : AT), SP A (exitsA n e A)
  | 0, _, _ => SP.rf
  | n + 1, e, A => exit_SP.tr (exits_SP n (e + 1) _)
theorem go_HLD (h : HLD A) : HLD (goA A j q) := h.mv go_SP.1 go_SP.2.2.2.1 (goA_f (by omega) (by decide) (by decide) (by decide) (by decide) (by decide)) (goA_f (by omega) (by decide) (by decide) (by decide) (by decide) (by decide))
theorem rel_HLD (h : HLD A) (hi : INV A T) (hq : 0 ≤ q ∧ q < A 0 0) (h25 : A 25 q = j) : HLD (relA A j q) := by
  intro y y1 y2
  have e0 : relA A j q 0 = A 0 := relA_f (by decide) (by decide)
  rw [e0] at y2
  rw [e0]
  have e90 : relA A j q 90 y = if y = j then A 90 j - 1 else A 90 y := by unfold relA; rw [upA_s, upA_f (by decide)]
  have g := hi.1
  have hu := cnI_u (P := fun z => decide (relA A j q 25 z = y)) (Q := fun z => decide (A 25 z = y)) (x := q) (n := (A 0 0).toNat) hq.1 (by omega) (fun z _ _ hz => by rw [relA_25, if_neg hz])
  rw [hu, e90, relA_25, if_pos rfl, h25, decide_eq_false (show ¬ (-1 : Int) = y by omega)]
  have hy := h y y1 y2
  by_cases c : y = j
  · subst c
    rw [if_pos rfl, decide_eq_true rfl, hy]
    simp
  · rw [if_neg c, decide_eq_false (show ¬ j = y from fun z => c z.symm), hy]
    simp
theorem side_HLD (h : HLD A) (hi : INV A T) (h1 : 0 ≤ j) (h2 : j < A 0 3) : HLD (sideA A j) := by
  obtain ⟨d1, d2, -⟩ := hi.2.2.2.1 j h1 h2
  unfold sideA gonA
  split
  · next c =>
    have hr := rel_HLD h hi ⟨d1, d2⟩ c
    split
    · exact go_HLD hr
    · exact hr
  · split
    · split
      · exact go_HLD h
      · exact h
    · exact h
theorem side_INV (hi : INV A T) (h1 : 0 ≤ j) (h2 : j < A 0 3) : INV (sideA A j) T := by
  obtain ⟨d1, d2, -⟩ := hi.2.2.2.1 j h1 h2
  unfold sideA gonA
  split
  · have hr := rel_INV (j := j) (q := A 40 j) hi
    have e0 : relA A j (A 40 j) 0 = A 0 := relA_f (by decide) (by decide)
    split
    · next c => exact go_INV hr h1 (by rw [e0]; exact h2) (by rw [e0]; exact ⟨d1, d2⟩) (by rw [relA_25, if_pos rfl]) c
    · exact hr
  · split
    · next c =>
      split
      · next c2 => exact go_INV hi h1 h2 ⟨d1, d2⟩ c.2 c2
      · exact hi
    · exact hi
theorem sides_HLD : ∀ (n : Nat) (j : Int) (A : AT), j + n ≤ A 0 3 → 0 ≤ j → INV A T → HLD A → HLD (sidesA n j A)
  | 0, _, _, _, _, _, h => h
  | n + 1, j, A, h1, h2, hi, h => sides_HLD n (j + 1) _ (by rw [side_SP.2.2.2.1]; omega) (by omega) (side_INV hi h2 (by omega)) (side_HLD h hi h2 (by omega))
theorem sides_SP : ∀ (n : Nat) (j : Int) (A : AT), SP A (sidesA n j A)
  | 0, _, _ => SP.rf
  | n + 1, j, A => side_SP.tr (sides_SP n (j + 1) _)
theorem adv_SP {N : Int} : SP A (advA N A) := by
  have k : ∀ f, (f < 20 ∨ 25 < f) → advA N A f = A f := fun f hf => by
    funext y
    unfold advA
    rw [if_neg (by omega)]
  refine ⟨?_, ?_, ?_, ?_, ?_, ?_, ?_, ?_, ?_, ?_, ?_, ?_, ?_, ?_, ?_, ?_, ?_⟩ <;> rw [k _ (by omega)]
theorem advA_f {N : Int} (hf : f < 20 ∨ 25 < f) : advA N A f = A f := by
  funext y
  unfold advA
  rw [if_neg (by omega)]
theorem advA_q {N : Int} (hf : f = 20 ∨ f = 21 ∨ f = 23 ∨ f = 24 ∨ f = 25) (h1 : 0 ≤ q) (h2 : q < N) : advA N A f q = A f (prv N q) := by
  unfold advA
  rw [if_pos ⟨by omega, by omega, h1, h2⟩, if_neg (by omega)]
theorem adv_HLD (h : HLD A) (hi : INV A T) : HLD (advA (A 0 0) A) := by
  have g := hi.1
  intro y y1 y2
  have e0 : advA (A 0 0) A 0 = A 0 := advA_f (by omega)
  rw [e0] at y2
  rw [e0, advA_f (by omega), h y y1 y2]
  have e : cnI (fun q => decide (advA (A 0 0) A 25 q = y)) (A 0 0).toNat = cnI (fun q => decide (A 25 (prv ((A 0 0).toNat : Int) q) = y)) (A 0 0).toNat := cnI_c fun z a b => by
    rw [advA_q (by omega) a (by omega), show ((A 0 0).toNat : Int) = A 0 0 by omega]
  rw [e]
  exact (cnI_p (fun q => decide (A 25 q = y)) (by omega)).symm
theorem adv_INV (hi : INV A T) : INV (advA (A 0 0) A) T := by
  obtain ⟨g, x, wx, sx, z, cx, px⟩ := hi
  unfold INV
  simp (disch := omega) only [advA_f]
  refine ⟨g, x, wx, sx, z, cx, fun y y1 y2 => ?_⟩
  have hp : 0 ≤ prv (A 0 0) y ∧ prv (A 0 0) y < A 0 0 := by unfold prv; split <;> omega
  obtain ⟨y3, y4, y5, y6, y7, y8, y9, y10⟩ := px _ hp.1 hp.2
  rw [advA_q (by omega) y1 y2, advA_q (by omega) y1 y2, advA_q (by omega) y1 y2]
  refine ⟨y3, y4, y5, y6, y7, y8, y9, fun h => ⟨(y10 h).1, ?_⟩⟩
  unfold advA
  rw [if_pos ⟨by omega, by omega, y1, y2⟩]
  by_cases c : y = 0
  · have e : prv (A 0 0) y = A 0 0 - 1 := by unfold prv; rw [if_pos c]
    rw [e] at h
    rw [if_neg (fun z => z.2.2 h), e]
    rw [e] at y10
    exact (y10 h).2
  · rw [if_neg (fun z => c z.2.1)]
    exact (y10 h).2
end HLDS
