/-! all ordinary methods' contracts -/
section ALL20
set_option maxRecDepth 100000
theorem own_lt : ∀ m, m < 312 → ownM m < 19 := by
  have h : ((List.range 312).all fun m => Nat.blt (ownM m) 19) = true := by decide +kernel
  intro m hm
  exact lt_of_blt (List.all_eq_true.mp h m (List.mem_range.mpr hm))
theorem po_all : ∀ o, o < 19 → POOL o
  | 0, _ => po_0
  | 1, _ => po_1
  | 2, _ => po_2
  | 3, _ => po_3
  | 4, _ => po_4
  | 5, _ => po_5
  | 6, _ => po_6
  | 7, _ => po_7
  | 8, _ => po_8
  | 9, _ => po_9
  | 10, _ => po_10
  | 11, _ => po_11
  | 12, _ => po_12
  | 13, _ => po_13
  | 14, _ => po_14
  | 15, _ => po_15
  | 16, _ => po_16
  | 17, _ => po_17
  | 18, _ => po_18
  | n + 19, h => absurd h (by omega)
theorem mk_len : mkT.length = 312 := by decide +kernel
theorem mk_lt {m : Nat} (h : mkM m ≠ 3) : m < 312 := by
  rcases Nat.lt_or_ge m 312 with q | q
  · exact q
  · exfalso
    apply h
    unfold mkM
    rw [List.getD_eq_getElem?_getD, List.getElem?_eq_none (by rw [mk_len]; exact q)]
    rfl
theorem gw_all : ∀ w ∈ gwT, goodWord w = true := fun _ h => (List.mem_filter.mp h).2
theorem con_one {l : Launch} {G : EG} {m lv : Nat} (hm : mkM m = 0) (hlv : lv ≤ 40 ∧ (rgM m = 0 → lv = 0)) (hIH : ∀ m' lv', mkM m' = 0 → rankM m' lv' + 1 ≤ rankM m lv → lv' ≤ 40 → (rgM m' = 0 → lv' = 0) → CON l G m' lv') : CON l G m lv := by
  have hlt := mk_lt (m := m) (by rw [hm]; decide)
  have h := ok_all m hlt
  unfold okM at h
  rw [hm] at h
  have h : (MDok m && isCd m && (pt m).all (fun e => ckE (byN m) m e)) = true := h
  rw [Bool.and_eq_true, Bool.and_eq_true] at h
  exact con_ord h.1.1 (cd_ok h.1.2) gw_all h.2 (po_all _ (own_lt m hlt)) aw_i aw_l ct_all hlv hIH
theorem con_all {l : Launch} {G : EG} : ∀ (n m lv : Nat), rankM m lv ≤ n → mkM m = 0 → lv ≤ 40 → (rgM m = 0 → lv = 0) → CON l G m lv := by
  intro n
  induction n with
  | zero =>
    intro m lv hr hm h1 h2
    exact con_one hm ⟨h1, h2⟩ fun m' lv' _ h5 _ _ => absurd h5 (by omega)
  | succ n ih =>
    intro m lv hr hm h1 h2
    exact con_one hm ⟨h1, h2⟩ fun m' lv' h4 h5 h6 h7 => ih m' lv' (by omega) h4 h6 h7
end ALL20
