/-! what a small state says of the machine's -/
/-- b0, class numbers, slots, the three array classes, the Strings and their bytes, a carried reference, the script -/
abbrev EG : Type := Nat × (Nat → ClassId) × (Nat → Nat → Nat) × ClassId × ClassId × ClassId × (Nat → Nat) × (Nat → Nat) × Value × Nat × (Nat → Int32) × Nat
def gb (G : EG) : Nat := G.1
def gD (G : EG) : va_G := (G.2.1, G.2.2.1)
def gI (G : EG) : ClassId := G.2.2.2.1
def gL (G : EG) : ClassId := G.2.2.2.2.1
def gS (G : EG) : ClassId := G.2.2.2.2.2.1
def gK (G : EG) : Nat → Nat := G.2.2.2.2.2.2.1
def gV (G : EG) : Nat → Nat := G.2.2.2.2.2.2.2.1
def gU (G : EG) : Value := G.2.2.2.2.2.2.2.2.1
def gC (G : EG) : Nat := G.2.2.2.2.2.2.2.2.2.1
def gX (G : EG) : Nat → Int32 := G.2.2.2.2.2.2.2.2.2.2.1
def gN (G : EG) : Nat := G.2.2.2.2.2.2.2.2.2.2.2
def gA (G : EG) : Nat → Prop := fun q => gb G ≤ q
def tvG (G : EG) (v : PV) : Value := match v with
  | .inl x => .int x
  | .inr (.inl x) => .long x
  | .inr (.inr (c, a)) => bif Nat.beq c 17 then .ref (gC G) else bif Nat.beq c 18 then .ref (gK G a) else bif Nat.beq c 19 then .ref (gV G a) else bif Nat.beq c 20 then gU G else .ref (gb G + a)
def okR (na c a : Nat) : Prop := (c ≤ 16 → a < na ∧ tyA a = c) ∧ (c = 17 → a = 0) ∧ (c = 18 ∨ c = 19 → a < 22) ∧ c ≤ 20
def okV (na : Nat) (v : PV) : Prop := match v with
  | .inr (.inr (c, a)) => c ≠ 0 → okR na c a
  | _ => True
def nfT (t : Nat) : Nat := (fkT.getD t []).length
def kcT : List Nat := [0, 11, 10, 1, 5, 4, 9, 0, 8, 7, 6, 3, 2, 12]
def kci (t : Nat) : Nat := kcT.getD t 0
def fvM (G : EG) (M : Mem) (a t k : Nat) : Value := bif Nat.beq (fkA t k).1 2 then (if M a k = 1 then .ref (gb G + (a + (fkA t k).2)) else .null) else .int (M a k)
def cvM (G : EG) (M : Mem) (a : Nat) : Nat → Option Nat := fun j => if M a j = 1 then some (gb G + (a + 1 + 50 * j)) else none
def ceM (G : EG) (M : Mem) (X : PX) (a : Nat) : va_E :=
  bif Nat.beq (tyA a) 14 then .inl (gI G, ln a, .inl (fun j => M a j))
  else bif Nat.beq (tyA a) 15 then .inl (gL G, ln a, .inr (.inl (fun _ => X.1)))
  else bif Nat.beq (tyA a) 16 then .inl (gS G, 10, .inr (.inr (.inr (.inr (cvM G M a)))))
  else .inr (kci (tyA a), (List.range (nfT (tyA a))).map (fvM G M a (tyA a)))
def wsM (G : EG) (M : Mem) (X : PX) : va_W := (List.range X.2.1).map fun a => (gb G + a, ceM G M X a)
/-- a reference that is set names a cell that is there -/
def rfOK (M : Mem) (na : Nat) : Prop := ∀ a k, a < na → isRf a k = true → M a k = 1 → a + rof a k < na
def HR (G : EG) (M : Mem) (X : PX) (H : Heap) : Prop := va_P (gD G) vwCl (wsM G M X) H ∧ (X.2.1 = X.2.2.1 → H.size = gb G + X.2.2.1) ∧ X.2.1 ≤ X.2.2.1 ∧ (∀ j, j < X.2.2.2.2.2 → M 900 j = gX G j) ∧ rfOK M X.2.1 ∧ X.2.2.2.2.2 = gN G
theorem wsM_at {G : EG} {M : Mem} {X : PX} {a : Nat} (h : a < X.2.1) : (wsM G M X)[a]? = some (gb G + a, ceM G M X a) := by
  unfold wsM
  rw [List.getElem?_map, List.getElem?_range h]
  rfl
theorem wsM_D {G : EG} {M : Mem} {X : PX} : va_D (gA G) (wsM G M X) := by
  have key : ∀ (k : Nat) (q : Nat × va_E), (wsM G M X)[k]? = some q → q.1 = gb G + k := by
    intro k q h
    unfold wsM at h
    rw [List.getElem?_map] at h
    cases hk : (List.range X.2.1)[k]? with
    | none => rw [hk] at h; cases h
    | some j =>
      rw [hk] at h
      have : j = k := by
        have := List.getElem?_eq_some_iff.mp hk
        obtain ⟨h1, h2⟩ := this
        rw [List.getElem_range] at h2
        exact h2.symm
      subst this
      cases h
      rfl
  refine ⟨fun i j p q hi hj hpq => ?_, fun k q hk => ?_⟩
  · rw [key i p hi, key j q hj] at hpq
    omega
  · rw [key k q hk]
    exact Nat.le_add_right _ _
theorem map_set {α : Type} (f g : Nat → α) (n a : Nat) (v : α) (h1 : g a = v) (h2 : ∀ i, i ≠ a → g i = f i) : ((List.range n).map f).set a v = (List.range n).map g := by
  apply List.ext_getElem?
  intro i
  rw [List.getElem?_set]
  by_cases hi : a = i
  · subst hi
    by_cases hl : a < n
    · simp [hl, h1]
    · simp [hl]
  · rw [if_neg hi, List.getElem?_map, List.getElem?_map]
    by_cases hl : i < n
    · rw [List.getElem?_range hl]
      simp [h2 i (Ne.symm hi)]
    · rw [List.getElem?_eq_none (by simpa using hl)]
      rfl
/-- a world with one cell changed -/
theorem wsM_set {G : EG} {M M' : Mem} {X : PX} {a : Nat} {e : va_E} (h1 : ceM G M' X a = e) (h2 : ∀ i, i ≠ a → ceM G M' X i = ceM G M X i) : (wsM G M X).set a (gb G + a, e) = wsM G M' X :=
  map_set _ _ _ _ _ (by rw [h1]) fun i hi => by rw [h2 i hi]
theorem wsM_setX {G : EG} {M : Mem} {X X' : PX} {a : Nat} {e : va_E} (hn : X'.2.1 = X.2.1) (h1 : ceM G M X' a = e) (h2 : ∀ i, i ≠ a → ceM G M X' i = ceM G M X i) : (wsM G M X).set a (gb G + a, e) = wsM G M X' := by
  unfold wsM
  rw [hn]
  exact map_set _ _ _ _ _ (by rw [h1]) fun i hi => by rw [h2 i hi]
theorem wsM_push {G : EG} {M M' : Mem} {X X' : PX} {e : va_E} (hn : X'.2.1 = X.2.1 + 1) (h1 : ceM G M' X' X.2.1 = e) (h2 : ∀ i, i < X.2.1 → ceM G M' X' i = ceM G M X i) : wsM G M X ++ [(gb G + X.2.1, e)] = wsM G M' X' := by
  unfold wsM
  rw [hn, List.range_succ, List.map_append]
  congr 1
  · exact List.map_congr_left fun i hi => by rw [h2 i (List.mem_range.mp hi)]
  · simp [h1]
theorem upM_ne {M : Mem} {a k : Nat} {v : Int32} {b : Nat} (h : b ≠ a) (j : Nat) : upM M a k v b j = M b j := by
  unfold upM; rw [if_neg (fun q => h q.1)]
theorem upM_self {M : Mem} {a k : Nat} {v : Int32} : upM M a k v a k = v := by
  unfold upM; rw [if_pos ⟨rfl, rfl⟩]
theorem upM_nk {M : Mem} {a k : Nat} {v : Int32} {j : Nat} (h : j ≠ k) : upM M a k v a j = M a j := by
  unfold upM; rw [if_neg (fun q => h q.2)]
theorem fvM_ne {G : EG} {M : Mem} {a k : Nat} {v : Int32} {b : Nat} (h : b ≠ a) (t : Nat) : fvM G (upM M a k v) b t = fvM G M b t := by
  funext j
  unfold fvM
  rw [upM_ne h]
theorem ceM_ne {G : EG} {M : Mem} {X : PX} {a k : Nat} {v : Int32} {b : Nat} (h : b ≠ a) : ceM G (upM M a k v) X b = ceM G M X b := by
  have e : cvM G (upM M a k v) b = cvM G M b := by funext j; unfold cvM; rw [upM_ne h]
  unfold ceM
  rw [fvM_ne h, e]
  congr 1
  · congr 1; congr 1; congr 1; congr 1; funext j; exact upM_ne h j
theorem tyA_lt {a : Nat} (h : tyA a ≠ 0) : a < 829 := by
  rcases Nat.lt_or_ge a 829 with q | q
  · exact q
  · exfalso
    apply h
    unfold tyA
    rw [List.getD_eq_getElem?_getD, List.getElem?_eq_none]
    · rfl
    · show lay0.length ≤ a
      have : lay0.length = 829 := by decide +kernel
      omega
theorem nbeq_f {a b : Nat} (h : a ≠ b) : Nat.beq a b = false := by
  cases hb : Nat.beq a b with
  | false => rfl
  | true => exact absurd (Nat.eq_of_beq_eq_true hb) h
theorem nbeq_t {a b : Nat} (h : Nat.beq a b = true) : a = b := Nat.eq_of_beq_eq_true h
theorem nbeq_n {a b : Nat} (h : Nat.beq a b = false) : a ≠ b := fun e => by subst e; rw [Nat.beq_refl] at h; cases h
theorem ceM_i {G : EG} {M : Mem} {X : PX} {a : Nat} (h : tyA a = 14) : ceM G M X a = .inl (gI G, ln a, .inl (fun j => M a j)) := by unfold ceM; rw [h]; rfl
theorem ceM_l {G : EG} {M : Mem} {X : PX} {a : Nat} (h : tyA a = 15) : ceM G M X a = .inl (gL G, ln a, .inr (.inl (fun _ => X.1))) := by unfold ceM; rw [h]; rfl
theorem ceM_s {G : EG} {M : Mem} {X : PX} {a : Nat} (h : tyA a = 16) : ceM G M X a = .inl (gS G, 10, .inr (.inr (.inr (.inr (cvM G M a))))) := by unfold ceM; rw [h]; rfl
theorem ceM_o {G : EG} {M : Mem} {X : PX} {a t : Nat} (h : tyA a = t) (h2 : t ≤ 13) : ceM G M X a = .inr (kci t, (List.range (nfT t)).map (fvM G M a t)) := by
  unfold ceM
  rw [h]
  have e1 : Nat.beq t 14 = false := nbeq_f (by omega)
  have e2 : Nat.beq t 15 = false := nbeq_f (by omega)
  have e3 : Nat.beq t 16 = false := nbeq_f (by omega)
  rw [e1, e2, e3]
  rfl
theorem HR.P {G : EG} {M : Mem} {X : PX} {H : Heap} (h : HR G M X H) : va_P (gD G) vwCl (wsM G M X) H := h.1
theorem rf_up {M : Mem} {na a k : Nat} {v : Int32} (h : rfOK M na) (hr : isRf a k = true → a + rof a k < na) : rfOK (upM M a k v) na := by
  intro b j hb hj h1
  by_cases e : b = a ∧ j = k
  · obtain ⟨rfl, rfl⟩ := e
    exact hr hj
  · unfold upM at h1
    rw [if_neg e] at h1
    exact h b j hb hj h1
theorem rf_nl {M : Mem} {na : Nat} (h : rfOK M na) : rfOK (nlM M na) (na + 1) := by
  intro b j hb hj h1
  unfold nlM at h1
  by_cases e : b = na
  · rw [if_pos e] at h1; cases h1
  · rw [if_neg e] at h1
    have := h b j (by omega) hj h1
    omega
theorem rf_cp {M : Mem} {na s sp d dp n : Nat} (h : rfOK M na) (ht : tyA d = 14) : rfOK (cpM M s sp d dp n) na := by
  intro b j hb hj h1
  by_cases e : b = d
  · subst e
    exfalso
    unfold isRf fkA at hj
    rw [ht] at hj
    cases hj
  · unfold cpM at h1
    rw [if_neg (fun q => e q.1)] at h1
    exact h b j hb hj h1
theorem set_iff {M : Mem} {na : Nat} : setA na M = true ↔ ∀ a k, a < na → isRf a k = true → M a k = 1 := by
  unfold setA
  rw [List.all_eq_true]
  constructor
  · intro h a k ha hk
    have h1 := h a (List.mem_range.mpr ha)
    unfold setOK at h1
    rw [List.all_eq_true] at h1
    have hl : k < (bif Nat.beq (tyA a) 16 then 10 else (fkT.getD (tyA a) []).length) := by
      unfold isRf at hk
      cases hb : Nat.beq (tyA a) 16 with
      | true =>
        have e : tyA a = 16 := nbeq_t hb
        rw [hb] at hk
        simp only [Bool.true_and, Bool.or_eq_true] at hk
        rcases hk with hk | hk
        · exact Nat.le_of_ble_eq_true hk
        · rw [e] at hk; cases hk
      | false =>
        rw [hb] at hk
        simp only [Bool.false_and, Bool.false_or] at hk
        show k < (fkT.getD (tyA a) []).length
        rcases Nat.lt_or_ge k (fkT.getD (tyA a) []).length with q | q
        · exact q
        · exfalso
          unfold fkA at hk
          rw [List.getD_eq_getElem?_getD, List.getElem?_eq_none q] at hk
          cases hk
    have h2 := h1 k (List.mem_range.mpr hl)
    rw [hk] at h2
    simpa using h2
  · intro h a ha
    unfold setOK
    rw [List.all_eq_true]
    intro k _
    cases hr : isRf a k with
    | false => rfl
    | true => simpa using h a k (List.mem_range.mp ha) hr
theorem set_up {M : Mem} {na a k : Nat} {v : Int32} (h : setA na M = true) (hr : isRf a k = false) : setA na (upM M a k v) = true := by
  rw [set_iff] at h ⊢
  intro b j hb hj
  unfold upM
  split
  · next e =>
    obtain ⟨rfl, rfl⟩ := e
    rw [hr] at hj; cases hj
  · exact h b j hb hj
theorem set_cp {M : Mem} {na s sp d dp n : Nat} (h : setA na M = true) (ht : tyA d = 14) : setA na (cpM M s sp d dp n) = true := by
  rw [set_iff] at h ⊢
  intro b j hb hj
  unfold cpM
  split
  · next e =>
    obtain ⟨rfl, -⟩ := e
    exfalso
    unfold isRf fkA at hj
    rw [ht] at hj
    cases hj
  · exact h b j hb hj
theorem nrf_i {a k : Nat} (h : tyA a = 14) : isRf a k = false := by unfold isRf fkA; rw [h]; rfl
theorem nrf_o {a k t kd : Nat} (h : tyA a = t) (h2 : t ≤ 13) (hk : (fkA t k).1 = kd) (h3 : kd ≠ 2) : isRf a k = false := by
  unfold isRf
  rw [h, hk, nbeq_f (by omega : t ≠ 16), nbeq_f h3]
  rfl
/-- behind a store of an int in a cell of ours -/
theorem HR_up {G : EG} {M : Mem} {X : PX} {H H1 : Heap} {a k : Nat} {v : Int32} (h : HR G M X H) (ht : tyA a ≠ 0) (hr : isRf a k = true → a + rof a k < X.2.1) (hP : va_P (gD G) vwCl (wsM G (upM M a k v) X) H1) (hz : H1.size = H.size) : HR G (upM M a k v) X H1 :=
  ⟨hP, fun q => by rw [hz]; exact h.2.1 q, h.2.2.1, fun j hj => by rw [upM_ne (by have := tyA_lt ht; omega)]; exact h.2.2.2.1 j hj, rf_up h.2.2.2.2.1 hr, h.2.2.2.2.2⟩
/-! undoing the readers of the stack -/
theorem u1_inv {β : Type} {st : List PV} {f : Int32 → List PV → Option β} {r : β} (h : u1 st f = some r) : ∃ x q, st = pI x :: q ∧ f x q = some r := by
  unfold u1 at h; split at h <;> first | exact ⟨_, _, rfl, h⟩ | cases h
theorem u2_inv {β : Type} {st : List PV} {f : Int32 → Int32 → List PV → Option β} {r : β} (h : u2 st f = some r) : ∃ x y q, st = pI y :: pI x :: q ∧ f x y q = some r := by
  unfold u2 at h; split at h <;> first | exact ⟨_, _, _, rfl, h⟩ | cases h
theorem ul1_inv {β : Type} {st : List PV} {f : Int64 → List PV → Option β} {r : β} (h : ul1 st f = some r) : ∃ x q, st = pL x :: q ∧ f x q = some r := by
  unfold ul1 at h; split at h <;> first | exact ⟨_, _, rfl, h⟩ | cases h
theorem ul2_inv {β : Type} {st : List PV} {f : Int64 → Int64 → List PV → Option β} {r : β} (h : ul2 st f = some r) : ∃ x y q, st = pL y :: pL x :: q ∧ f x y q = some r := by
  unfold ul2 at h; split at h <;> first | exact ⟨_, _, _, rfl, h⟩ | cases h
theorem ur1_inv {β : Type} {st : List PV} {f : Nat → Nat → List PV → Option β} {r : β} (h : ur1 st f = some r) : ∃ c a q, st = pR c a :: q ∧ f c a q = some r := by
  unfold ur1 at h; split at h <;> first | exact ⟨_, _, _, rfl, h⟩ | cases h
theorem uir_inv {β : Type} {st : List PV} {f : Nat → Nat → Int32 → List PV → Option β} {r : β} (h : uir st f = some r) : ∃ c a x q, st = pI x :: pR c a :: q ∧ f c a x q = some r := by
  unfold uir at h; split at h <;> first | exact ⟨_, _, _, _, rfl, h⟩ | cases h
theorem uiir_inv {β : Type} {st : List PV} {f : Nat → Nat → Int32 → Int32 → List PV → Option β} {r : β} (h : uiir st f = some r) : ∃ c a i v q, st = pI v :: pI i :: pR c a :: q ∧ f c a i v q = some r := by
  unfold uiir at h; split at h <;> first | exact ⟨_, _, _, _, _, rfl, h⟩ | cases h
theorem ulir_inv {β : Type} {st : List PV} {f : Nat → Nat → Int32 → Int64 → List PV → Option β} {r : β} (h : ulir st f = some r) : ∃ c a i v q, st = pL v :: pI i :: pR c a :: q ∧ f c a i v q = some r := by
  unfold ulir at h; split at h <;> first | exact ⟨_, _, _, _, _, rfl, h⟩ | cases h
theorem urir_inv {β : Type} {st : List PV} {f : Nat → Nat → Int32 → Nat → Nat → List PV → Option β} {r : β} (h : urir st f = some r) : ∃ c a i d b q, st = pR d b :: pI i :: pR c a :: q ∧ f c a i d b q = some r := by
  unfold urir at h; split at h <;> first | exact ⟨_, _, _, _, _, _, rfl, h⟩ | cases h
theorem urr_inv {β : Type} {st : List PV} {f : Nat → Nat → Nat → Nat → List PV → Option β} {r : β} (h : urr st f = some r) : ∃ c a d b q, st = pR d b :: pR c a :: q ∧ f c a d b q = some r := by
  unfold urr at h; split at h <;> first | exact ⟨_, _, _, _, _, rfl, h⟩ | cases h
theorem ucp_inv {β : Type} {st : List PV} {f : Nat → Nat → Int32 → Nat → Nat → Int32 → Int32 → List PV → Option β} {r : β} (h : ucp st f = some r) : ∃ c a sp d b dp n q, st = pI n :: pI dp :: pR d b :: pI sp :: pR c a :: q ∧ f c a sp d b dp n q = some r := by
  unfold ucp at h; split at h <;> first | exact ⟨_, _, _, _, _, _, _, _, rfl, h⟩ | cases h
theorem utop_inv {β : Type} {st : List PV} {f : PV → List PV → Option β} {r : β} (h : utop st f = some r) : ∃ v q, st = v :: q ∧ (∀ x, v ≠ pL x) ∧ f v q = some r := by
  unfold utop at h; split at h
  · exact ⟨_, _, rfl, (fun x q => (by cases q)), h⟩
  · exact ⟨_, _, rfl, (fun x q => (by cases q)), h⟩
  · cases h
theorem ue_inv {β : Type} {st : List PV} {b : Option β} {r : β} (h : ue st b = some r) : st = [] ∧ b = some r := by
  unfold ue at h; split at h <;> first | exact ⟨rfl, h⟩ | cases h
theorem bif_inv {β : Type} {b : Bool} {x : Option β} {r : β} (h : (bif b then x else none) = some r) : b = true ∧ x = some r := by
  cases b
  · cases h
  · exact ⟨rfl, h⟩
theorem bif_ninv {β : Type} {b : Bool} {x : Option β} {r : β} (h : (bif b then none else x) = some r) : b = false ∧ x = some r := by
  cases b
  · exact ⟨rfl, h⟩
  · cases h
theorem ite_inv {β : Type} {c : Prop} [Decidable c] {x : Option β} {r : β} (h : (if c then x else none) = some r) : c ∧ x = some r := by
  by_cases hc : c
  · rw [if_pos hc] at h; exact ⟨hc, h⟩
  · rw [if_neg hc] at h; cases h
theorem ite_ninv {β : Type} {c : Prop} [Decidable c] {x : Option β} {r : β} (h : (if c then none else x) = some r) : ¬ c ∧ x = some r := by
  by_cases hc : c
  · rw [if_pos hc] at h; cases h
  · rw [if_neg hc] at h; exact ⟨hc, h⟩
theorem bind_inv {α β : Type} {a : Option α} {f : α → Option β} {r : β} (h : a.bind f = some r) : ∃ v, a = some v ∧ f v = some r := by cases a <;> first | cases h | exact ⟨_, rfl, h⟩
