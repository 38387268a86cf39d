/-! what a run does to the counts; tables and cells moved along; the end of a method -/
def PC {β : Type} (P : β → Prop) (b : Option β) : Prop := ∀ r, b = some r → P r
theorem pc_no {β : Type} {P : β → Prop} : PC P none := fun _ h => by cases h
theorem pc_some {β : Type} {P : β → Prop} {r : β} (h : P r) : PC P (some r) := fun _ q => by cases q; exact h
theorem pc_bind {α β : Type} {P : β → Prop} {a : Option α} {g : α → Option β} (k : ∀ v, a = some v → PC P (g v)) : PC P (a.bind g) := by
  cases a with
  | none => exact pc_no
  | some v => exact k v rfl
theorem pc_bf {β : Type} {P : β → Prop} {b : Bool} {f g : Option β} (h : b = true → PC P f) (k : b = false → PC P g) : PC P (bif b then f else g) := by
  cases b
  · exact k rfl
  · exact h rfl
theorem pc_it {β : Type} {P : β → Prop} {c : Prop} [Decidable c] {f g : Option β} (h : c → PC P f) (k : ¬ c → PC P g) : PC P (if c then f else g) := by
  by_cases hc : c
  · rw [if_pos hc]; exact h hc
  · rw [if_neg hc]; exact k hc
theorem pc_cn {β : Type} {P : β → Prop} {c : ClassFile.Cond} {x y : Int32} {f g : Option β} (h : PC P f) (k : PC P g) : PC P (cnd c x y f g) := by
  cases c <;> unfold cnd <;> dsimp only <;> first | exact pc_it (fun _ => h) (fun _ => k) | exact pc_it (fun _ => k) (fun _ => h)
theorem pc_sw {β : Type} {P : β → Prop} {k : Nat → Option β} (h : ∀ p, PC P (k p)) {x : Int32} {d : Nat} : ∀ l : List (Int32 × Nat), PC P (sw k x d l)
  | [] => h d
  | (_, t) :: r => pc_it (fun _ => h t) (fun _ => pc_sw h r)
theorem pc_u1 {β : Type} {P : β → Prop} {st : List PV} {f : Int32 → List PV → Option β} (h : ∀ x r, PC P (f x r)) : PC P (u1 st f) := by
  unfold u1; split <;> first | exact h _ _ | exact pc_no
theorem pc_u2 {β : Type} {P : β → Prop} {st : List PV} {f : Int32 → Int32 → List PV → Option β} (h : ∀ x y r, PC P (f x y r)) : PC P (u2 st f) := by
  unfold u2; split <;> first | exact h _ _ _ | exact pc_no
theorem pc_ul1 {β : Type} {P : β → Prop} {st : List PV} {f : Int64 → List PV → Option β} (h : ∀ x r, PC P (f x r)) : PC P (ul1 st f) := by
  unfold ul1; split <;> first | exact h _ _ | exact pc_no
theorem pc_ul2 {β : Type} {P : β → Prop} {st : List PV} {f : Int64 → Int64 → List PV → Option β} (h : ∀ x y r, PC P (f x y r)) : PC P (ul2 st f) := by
  unfold ul2; split <;> first | exact h _ _ _ | exact pc_no
theorem pc_ur1 {β : Type} {P : β → Prop} {st : List PV} {f : Nat → Nat → List PV → Option β} (h : ∀ x y r, PC P (f x y r)) : PC P (ur1 st f) := by
  unfold ur1; split <;> first | exact h _ _ _ | exact pc_no
theorem pc_uir {β : Type} {P : β → Prop} {st : List PV} {f : Nat → Nat → Int32 → List PV → Option β} (h : ∀ x y z r, PC P (f x y z r)) : PC P (uir st f) := by
  unfold uir; split <;> first | exact h _ _ _ _ | exact pc_no
theorem pc_uiir {β : Type} {P : β → Prop} {st : List PV} {f : Nat → Nat → Int32 → Int32 → List PV → Option β} (h : ∀ x y z w r, PC P (f x y z w r)) : PC P (uiir st f) := by
  unfold uiir; split <;> first | exact h _ _ _ _ _ | exact pc_no
theorem pc_ulir {β : Type} {P : β → Prop} {st : List PV} {f : Nat → Nat → Int32 → Int64 → List PV → Option β} (h : ∀ x y z w r, PC P (f x y z w r)) : PC P (ulir st f) := by
  unfold ulir; split <;> first | exact h _ _ _ _ _ | exact pc_no
theorem pc_urir {β : Type} {P : β → Prop} {st : List PV} {f : Nat → Nat → Int32 → Nat → Nat → List PV → Option β} (h : ∀ x y z w v r, PC P (f x y z w v r)) : PC P (urir st f) := by
  unfold urir; split <;> first | exact h _ _ _ _ _ _ | exact pc_no
theorem pc_urr {β : Type} {P : β → Prop} {st : List PV} {f : Nat → Nat → Nat → Nat → List PV → Option β} (h : ∀ x y z w r, PC P (f x y z w r)) : PC P (urr st f) := by
  unfold urr; split <;> first | exact h _ _ _ _ _ | exact pc_no
theorem pc_ucp {β : Type} {P : β → Prop} {st : List PV} {f : Nat → Nat → Int32 → Nat → Nat → Int32 → Int32 → List PV → Option β} (h : ∀ a b c d e g i r, PC P (f a b c d e g i r)) : PC P (ucp st f) := by
  unfold ucp; split <;> first | exact h _ _ _ _ _ _ _ _ | exact pc_no
theorem pc_utop {β : Type} {P : β → Prop} {st : List PV} {f : PV → List PV → Option β} (h : ∀ x r, PC P (f x r)) : PC P (utop st f) := by
  unfold utop; split <;> first | exact h _ _ | exact pc_no
theorem pc_ue {β : Type} {P : β → Prop} {st : List PV} {b : Option β} (h : PC P b) : PC P (ue st b) := by
  unfold ue; split <;> first | exact h | exact pc_no
/-- cells are only added; a frame's counts stay within its method's; the answer is a number -/
def PXI (m : Nat) (X : PX) (r : PRs) : Prop := X.2.1 ≤ r.2.2.2.1 ∧ X.2.2.1 ≤ r.2.2.2.2.1 ∧ (alM m = true → X.2.2.2.1 ≤ mcM m ∧ X.2.2.2.2.1 ≤ msM m → r.2.2.2.2.2.1 ≤ mcM m ∧ r.2.2.2.2.2.2.1 ≤ msM m) ∧ (∀ v, r.1 = .inl (some v) → (∃ x, v = pI x) ∨ ∃ x, v = pL x) ∧ (alM m = true → X.2.2.2.1 ≤ r.2.2.2.2.2.1 ∧ X.2.2.2.2.1 ≤ r.2.2.2.2.2.2.1)
theorem pxi_k {m : Nat} {X X' : PX} {b : Option PRs} (h1 : X.2.1 ≤ X'.2.1) (h2 : X.2.2.1 ≤ X'.2.2.1) (h3 : alM m = true → X.2.2.2.1 ≤ mcM m ∧ X.2.2.2.2.1 ≤ msM m → X'.2.2.2.1 ≤ mcM m ∧ X'.2.2.2.2.1 ≤ msM m) (h4 : alM m = true → X.2.2.2.1 ≤ X'.2.2.2.1 ∧ X.2.2.2.2.1 ≤ X'.2.2.2.2.1) (h : PC (PXI m X') b) : PC (PXI m X) b := fun r hr =>
  ⟨Nat.le_trans h1 (h r hr).1, Nat.le_trans h2 (h r hr).2.1, fun a b => (h r hr).2.2.1 a (h3 a b), (h r hr).2.2.2.1, fun a => ⟨Nat.le_trans (h4 a).1 ((h r hr).2.2.2.2 a).1, Nat.le_trans (h4 a).2 ((h r hr).2.2.2.2 a).2⟩⟩
theorem kRet_P {ph : Bool} {m mc ms nx : Nat} {K : KT} {ls r : List PV} {X : PX} (hK : ∀ pc ls st M X, PC (PXI m X) (K pc ls st M X)) (q : PRs) (h1 : X.2.1 ≤ q.2.2.2.1) (h2 : X.2.2.1 ≤ q.2.2.2.2.1) (h3 : alM m = true → X.2.2.2.1 ≤ mcM m ∧ X.2.2.2.2.1 ≤ msM m → X.2.2.2.1 + mc ≤ mcM m ∧ X.2.2.2.2.1 + ms ≤ msM m) : PC (PXI m X) (kRet ph (alM m) m mc ms nx K ls r X q) := by
  have g1 : X.2.1 ≤ (bkX (alM m) mc ms X q.2.2).2.1 := by unfold bkX; cases alM m <;> exact h1
  have g2 : X.2.2.1 ≤ (bkX (alM m) mc ms X q.2.2).2.2.1 := by unfold bkX; cases alM m <;> exact h2
  have g3 : alM m = true → X.2.2.2.1 ≤ mcM m ∧ X.2.2.2.2.1 ≤ msM m → (bkX (alM m) mc ms X q.2.2).2.2.2.1 ≤ mcM m ∧ (bkX (alM m) mc ms X q.2.2).2.2.2.2.1 ≤ msM m := by
    intro ha hb
    unfold bkX
    rw [ha]
    exact h3 ha hb
  have g4 : alM m = true → X.2.2.2.1 ≤ (bkX (alM m) mc ms X q.2.2).2.2.2.1 ∧ X.2.2.2.2.1 ≤ (bkX (alM m) mc ms X q.2.2).2.2.2.2.1 := by
    intro ha
    unfold bkX
    rw [ha]
    exact ⟨Nat.le_add_right _ _, Nat.le_add_right _ _⟩
  obtain ⟨o, M', X'⟩ := q
  rcases o with (_ | v) | e
  · exact pxi_k g1 g2 g3 g4 (hK _ _ _ _ _)
  · exact pxi_k g1 g2 g3 g4 (hK _ _ _ _ _)
  · unfold kRet
    dsimp only
    refine pc_bf (fun _ => ?_) (fun _ => pc_no)
    split
    · exact pc_some ⟨g1, g2, g3, (fun v hv => (by cases hv; exact Or.inl ⟨_, rfl⟩)), g4⟩
    · exact pc_no
theorem kCall_P {ph : Bool} {m lv nx : Nat} {K : KT} {w : Nat × Nat × Nat × Nat × Nat × Nat × Nat} {as ls r : List PV} {M : Mem} {X : PX} {cl : Nat → Nat → List PV → Mem → PX → Option PRs} (hcl : ∀ m' lv' as M X, PC (PXI m' X) (cl m' lv' as M X)) (hK : ∀ pc ls st M X, PC (PXI m X) (K pc ls st M X)) :
    PC (PXI m X) (kCall ph cl m lv K nx w as ls r M X) := by
  unfold kCall
  refine pc_bf (fun _ => pc_bf (fun _ => pc_bf (fun _ => pc_bind fun q hq => ?_) (fun _ => pc_bf (fun _ => pc_bf (fun _ => pc_bind fun q hq => ?_) (fun _ => pc_no)) (fun _ => pc_bind fun q hq => ?_))) (fun _ => pc_bf (fun _ => pc_it (fun hc => pc_bind fun q hq => ?_) (fun _ => pc_no)) (fun _ => pc_no))) (fun _ => pc_no)
  · exact kRet_P hK q (hcl _ _ _ _ _ q hq).1 (hcl _ _ _ _ _ q hq).2.1 (fun _ h => h)
  · exact kRet_P hK q (hcl _ _ _ _ _ q hq).1 (hcl _ _ _ _ _ q hq).2.1 (fun _ h => h)
  · exact kRet_P hK q (hcl _ _ _ _ _ q hq).1 (hcl _ _ _ _ _ q hq).2.1 (fun _ h => h)
  · exact kRet_P hK q (hcl _ _ _ _ (enX 1 X) q hq).1 (hcl _ _ _ _ (enX 1 X) q hq).2.1 (fun _ _ => hc)
set_option maxHeartbeats 4000000 in
theorem stp_P {ph : Bool} {m lv : Nat} {K : KT} {ls st : List PV} {M : Mem} {X : PX} {cl : Nat → Nat → List PV → Mem → PX → Option PRs} (hcl : ∀ m' lv' as M X, PC (PXI m' X) (cl m' lv' as M X)) (hK : ∀ pc ls st M X, PC (PXI m X) (K pc ls st M X)) {e : PE} :
    PC (PXI m X) (stp ph cl m lv K e ls st M X) := by
  obtain ⟨pc, i, len, tg, cv⟩ := e
  cases i <;> unfold stp <;> dsimp only <;> (try exact pc_no) <;>
    (repeat' first
      | exact hK _ _ _ _ _
      | exact pc_no
      | exact kCall_P hcl hK
      | exact pc_some ⟨Nat.le_refl _, Nat.le_refl _, fun _ h => h, (fun v hv => (by cases hv; exact Or.inl ⟨_, rfl⟩)), fun _ => ⟨Nat.le_refl _, Nat.le_refl _⟩⟩
      | exact pc_some ⟨Nat.le_refl _, Nat.le_refl _, fun _ h => h, (fun v hv => (by cases hv; exact Or.inr ⟨_, rfl⟩)), fun _ => ⟨Nat.le_refl _, Nat.le_refl _⟩⟩
      | exact pc_some ⟨Nat.le_refl _, Nat.le_refl _, fun _ h => h, (fun v hv => (by cases hv)), fun _ => ⟨Nat.le_refl _, Nat.le_refl _⟩⟩
      | (rename_i h9; exact pc_some ⟨Nat.le_refl _, Nat.le_succ _, fun _ _ => h9, (fun v hv => (by cases hv)), fun _ => ⟨Nat.le_succ _, Nat.le_add_right _ _⟩⟩)
      | (rename_i h9; exact pxi_k (Nat.le_succ _) (Nat.le_succ _) (fun _ _ => ⟨h9.2.2.1, h9.2.2.2⟩) (fun _ => ⟨Nat.le_succ _, Nat.le_add_right _ _⟩) (hK _ _ _ _ _))
      | (rename_i h9; exact pxi_k (Nat.le_succ _) (Nat.le_succ _) (fun _ _ => ⟨h9.2.2.2.2.1, h9.2.2.2.2.2⟩) (fun _ => ⟨Nat.le_succ _, Nat.le_add_right _ _⟩) (hK _ _ _ _ _))
      | exact pxi_k (Nat.le_refl _) (Nat.le_refl _) (fun _ h => h) (fun _ => ⟨Nat.le_refl _, Nat.le_refl _⟩) (hK _ _ _ _ _)
      | refine pc_u1 fun _ _ => ?_
      | refine pc_u2 fun _ _ _ => ?_
      | refine pc_ul1 fun _ _ => ?_
      | refine pc_ul2 fun _ _ _ => ?_
      | refine pc_ur1 fun _ _ _ => ?_
      | refine pc_uir fun _ _ _ _ => ?_
      | refine pc_uiir fun _ _ _ _ _ => ?_
      | refine pc_ulir fun _ _ _ _ _ => ?_
      | refine pc_urir fun _ _ _ _ _ _ => ?_
      | refine pc_urr fun _ _ _ _ _ => ?_
      | refine pc_ucp fun _ _ _ _ _ _ _ _ => ?_
      | refine pc_utop fun _ _ => ?_
      | refine pc_ue ?_
      | refine pc_sw (fun _ => ?_) _
      | refine pc_bind fun _ _ => ?_
      | refine pc_bf (fun _ => ?_) (fun _ => ?_)
      | refine pc_it (fun _ => ?_) (fun _ => ?_)
      | refine pc_cn ?_ ?_
      | (rename_i ty _ _ _; cases ty <;> dsimp only)
      | (rename_i ty _ _; cases ty <;> dsimp only)
      | (rename_i ty; cases ty <;> dsimp only))
theorem run_P : ∀ (n : Nat) {ph : Bool} {m lv pc : Nat} {ls st : List PV} {M : Mem} {X : PX}, PC (PXI m X) (run n ph m lv pc ls st M X)
  | 0, _, _, _, _, _, _, _, _ => pc_no
  | n + 1, ph, m, lv, pc, ls, st, M, X => by
    show PC (PXI m X) (stA (fun ph m' lv' as M X => run n ph m' lv' 0 as [] M X) (fun ph => run n ph m lv) ph m lv pc ls st M X)
    unfold stA
    exact pc_bf (fun _ => pc_it (fun _ => run_P n) (fun _ => pc_no)) (fun _ => pc_bind fun e _ => stp_P (fun _ _ _ _ _ => run_P n) (fun _ _ _ _ _ => run_P n))
