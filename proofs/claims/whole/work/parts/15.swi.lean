/-! switches by table -/
def tt (pc : Nat) : Int → List Int → List (Int32 × Nat) → Bool
  | _, [], [] => true
  | lo, o :: os, (v, t) :: T => decide (v.toInt = lo) && decide ((pc : Int) + o = (t : Int)) && tt pc (lo + 1) os T
  | _, _, _ => false
theorem tt_some {pc : Nat} : ∀ {lo : Int} {os : List Int} {T : List (Int32 × Nat)}, tt pc lo os T = true → ∀ (x : Int32), lo ≤ x.toInt → x.toInt < lo + os.length → ∃ q ∈ T, q.1 = x
  | lo, [], [], _, x, h1, h2 => by
    exfalso
    simp at h2
    omega
  | lo, o :: os, (v, t) :: T, h, x, h1, h2 => by
    unfold tt at h
    simp only [Bool.and_eq_true, decide_eq_true_eq] at h
    obtain ⟨⟨e1, -⟩, e3⟩ := h
    by_cases hx : x.toInt = lo
    · exact ⟨(v, t), List.mem_cons_self, Int32.toInt_inj.mp (e1.trans hx.symm)⟩
    · have h3 : x.toInt < lo + 1 + os.length := by
        simp only [List.length_cons] at h2
        omega
      obtain ⟨q, hq, h4⟩ := tt_some e3 x (by omega) h3
      exact ⟨q, List.mem_cons_of_mem _ hq, h4⟩
  | lo, [], _ :: _, h, _, _, _ => by cases h
  | lo, _ :: _, [], h, _, _, _ => by cases h
theorem tt_at {pc : Nat} : ∀ {lo : Int} {os : List Int} {T : List (Int32 × Nat)}, tt pc lo os T = true → ∀ (k : Nat) (x : Int32) (t : Nat), T[k]? = some (x, t) → x.toInt = lo + k ∧ ∃ off, os[k]? = some off ∧ (pc : Int) + off = (t : Int)
  | lo, [], [], _, k, x, t, h => by simp at h
  | lo, o :: os, (v, u) :: T, h, k, x, t, hk => by
    unfold tt at h
    simp only [Bool.and_eq_true, decide_eq_true_eq] at h
    obtain ⟨⟨e1, e2⟩, e3⟩ := h
    cases k with
    | zero =>
      have hk : some (v, u) = some (x, t) := hk
      cases hk
      exact ⟨by rw [e1]; simp, o, rfl, e2⟩
    | succ k =>
      obtain ⟨h1, h2⟩ := tt_at e3 k x t hk
      exact ⟨by rw [h1]; push_cast; omega, h2⟩
  | lo, [], _ :: _, h, _, _, _, _ => by cases h
  | lo, _ :: _, [], h, _, _, _, _ => by cases h
def tsB (pc tg : Nat) (d lo hi : Int) (offs : Array Int) (T : List (Int32 × Nat)) : Bool := decide ((pc : Int) + d = (tg : Int)) && decide (hi + 1 = lo + offs.toList.length) && tt pc lo offs.toList T
theorem tsB_ok {pc tg : Nat} {d lo hi : Int} {offs : Array Int} {T : List (Int32 × Nat)} (h : tsB pc tg d lo hi offs T = true) : tsOK pc tg d lo hi offs T := by
  unfold tsB at h
  simp only [Bool.and_eq_true, decide_eq_true_eq] at h
  obtain ⟨⟨h1, h2⟩, h3⟩ := h
  refine ⟨h1, fun x hx => ?_, fun k x t hk => ?_⟩
  · rcases Int.lt_or_le x.toInt lo with q | q
    · exact Or.inl q
    · rcases Int.lt_or_le hi x.toInt with q2 | q2
      · exact Or.inr q2
      · obtain ⟨r, hr, e⟩ := tt_some h3 x q (by omega)
        exact absurd e (hx r hr)
  · obtain ⟨e1, off, e2, e3⟩ := tt_at h3 k x t hk
    have hlt : k < offs.toList.length := (List.getElem?_eq_some_iff.mp e2).1
    have e4 : (x.toInt - lo).toNat = k := by omega
    refine ⟨by omega, by omega, off, ?_, e3⟩
    rw [e4, ← Array.getElem?_toList]
    exact e2
def lt9 (pc : Nat) : List (Int × Int) → List (Int32 × Nat) → Bool
  | [], [] => true
  | (a, o) :: ps, (v, t) :: T => decide (v.toInt = a) && decide ((pc : Int) + o = (t : Int)) && T.all (fun q => decide (q.1 ≠ v)) && lt9 pc ps T
  | _, _ => false
theorem lt9_no {pc : Nat} {d : Int} : ∀ {ps : List (Int × Int)} {T : List (Int32 × Nat)}, lt9 pc ps T = true → ∀ (x : Int32), (∀ q ∈ T, q.1 ≠ x) → Op.lookupswitch.offset ps d x.toInt = d
  | [], [], _, x, _ => rfl
  | (a, o) :: ps, (v, t) :: T, h, x, hx => by
    unfold lt9 at h
    simp only [Bool.and_eq_true, decide_eq_true_eq] at h
    obtain ⟨⟨⟨e1, -⟩, -⟩, e3⟩ := h
    rw [Op.lookupswitch.offset_cons, if_neg (fun q => hx (v, t) List.mem_cons_self (Int32.toInt_inj.mp (e1.trans q)))]
    exact lt9_no e3 x fun q hq => hx q (List.mem_cons_of_mem _ hq)
  | [], _ :: _, h, _, _ => by cases h
  | _ :: _, [], h, _, _ => by cases h
theorem lt9_at {pc : Nat} {d : Int} : ∀ {ps : List (Int × Int)} {T : List (Int32 × Nat)}, lt9 pc ps T = true → ∀ (k : Nat) (x : Int32) (t : Nat), T[k]? = some (x, t) → (pc : Int) + Op.lookupswitch.offset ps d x.toInt = (t : Int)
  | [], [], _, k, x, t, h => by simp at h
  | (a, o) :: ps, (v, u) :: T, h, k, x, t, hk => by
    unfold lt9 at h
    simp only [Bool.and_eq_true, decide_eq_true_eq] at h
    obtain ⟨⟨⟨e1, e2⟩, e0⟩, e3⟩ := h
    cases k with
    | zero =>
      have hk : some (v, u) = some (x, t) := hk
      cases hk
      rw [Op.lookupswitch.offset_cons, if_pos e1.symm]
      exact e2
    | succ k =>
      have hk : T[k]? = some (x, t) := hk
      have hne : x ≠ v := by
        have := List.all_eq_true.mp e0 _ (List.mem_of_getElem? hk)
        simpa using this
      rw [Op.lookupswitch.offset_cons, if_neg (fun q => hne (Int32.toInt_inj.mp (q.symm.trans e1.symm)))]
      exact lt9_at e3 k x t hk
  | [], _ :: _, h, _, _, _, _ => by cases h
  | _ :: _, [], h, _, _, _, _ => by cases h
def lsB (pc tg : Nat) (d : Int) (ps : Array (Int × Int)) (T : List (Int32 × Nat)) : Bool := (ps.toList.zip (ps.toList.drop 1)).all (fun (a, next) => a.1 < next.1) && decide ((pc : Int) + d = (tg : Int)) && lt9 pc ps.toList T
theorem lsB_ok {pc tg : Nat} {d : Int} {ps : Array (Int × Int)} {T : List (Int32 × Nat)} (h : lsB pc tg d ps T = true) : lsOK pc tg d ps T := by
  unfold lsB at h
  rw [Bool.and_eq_true, Bool.and_eq_true, decide_eq_true_eq] at h
  exact ⟨h.1.1, h.1.2, fun x hx => lt9_no h.2 x hx, fun k x t hk => lt9_at h.2 k x t hk⟩
