/-! one instruction after the other -/
section FRA
variable {p : Program} {l : Launch} {e : Env} {R : Room} {s : State} {m : MethodId} {args : Array Value} {below : List Frame} {meth : Method} {c : Code} {Q : State → Prop} {cc : ByteArray} {G : EG} {mi lv nL : Nat} {ph : Bool} {cl : Nat → Nat → List PV → Mem → PX → Option PRs} {K : KT} {r0 : PRs} {pc tg : Nat} {cv : Int32} {L st : List PV} {ls : Array Slot} {M : Mem} {X : PX} {H : Heap} {locs : List Loc}
def cX (mi : Nat) (X : PX) : Nat := bif alM mi then X.2.2.2.1 else 0
def sX (mi : Nat) (X : PX) : Nat := bif alM mi then X.2.2.2.2.1 else 0
def gv (v : PV) : Prop := match v with
  | .inr (.inr (k, _)) => k ≠ 0
  | _ => True
theorem nth_out : ∀ (L : List PV) (i : Nat), plen L ≤ i → nth L i = p0
  | [], _, _ => rfl
  | _ :: _, 0, h => absurd h (Nat.not_succ_le_zero _)
  | _ :: L, i + 1, h => nth_out L i (Nat.le_of_succ_le_succ h)
def LRl (G : EG) (n : Nat) (ls : Array Slot) (L : List PV) : Prop := plen L = n ∧ ls.size = n ∧ lv_wf ls ∧ ∀ i v, nth L i = v → gv v → ls[i]? = some (.val (tvG G v))
def FI (G : EG) (s : State) (H : Heap) (locs : List Loc) (ph : Bool) (n : Nat) (M : Mem) (X : PX) (ls : Array Slot) (L st : List PV) : Prop :=
  HR G M X H ∧ (ph = true → setA X.2.1 M = true) ∧ va_S (gA G) s.heap H locs ∧ LRl G n ls L ∧ (∀ i, okV X.2.1 (nth L i)) ∧ (∀ v ∈ st, okV X.2.1 v ∧ gv v) ∧ (gU G = .null ∨ ∃ q, gU G = .ref q)
def IHK (p : Program) (l : Launch) (e : Env) (R : Room) (s : State) (m : MethodId) (args : Array Value) (below : List Frame) (meth : Method) (c : Code) (Q : State → Prop) (G : EG) (mi nL : Nat) (ph : Bool) (K : KT) (r0 : PRs) : Prop :=
  ∀ (pc : Nat) (L st : List PV) (M : Mem) (X : PX) (H : Heap) (locs : List Loc) (ls : Array Slot), K pc L st M X = some r0 → FI G s H locs ph nL M X ls L st → W p l e R s m args below meth c H locs (cX mi X) (sX mi X) Q (F0 m pc ls ((st).map (tvG G)))
theorem fi_st {st' : List PV} (fi : FI G s H locs ph nL M X ls L st) (h : ∀ v ∈ st', okV X.2.1 v ∧ gv v) : FI G s H locs ph nL M X ls L st' := ⟨fi.1, fi.2.1, fi.2.2.1, fi.2.2.2.1, fi.2.2.2.2.1, h, fi.2.2.2.2.2.2⟩
theorem fi_tl {v : PV} (fi : FI G s H locs ph nL M X ls L (v :: st)) : FI G s H locs ph nL M X ls L st := fi_st fi fun w hw => fi.2.2.2.2.2.1 w (List.mem_cons_of_mem _ hw)
theorem fi_hd {v : PV} (fi : FI G s H locs ph nL M X ls L (v :: st)) : okV X.2.1 v ∧ gv v := fi.2.2.2.2.2.1 v List.mem_cons_self
theorem fi_push {v : PV} (fi : FI G s H locs ph nL M X ls L st) (h : okV X.2.1 v ∧ gv v) : FI G s H locs ph nL M X ls L (v :: st) := fi_st fi fun w hw => by
  rcases List.mem_cons.mp hw with rfl | hw
  · exact h
  · exact fi.2.2.2.2.2.1 w hw
theorem fi_I {x : Int32} (fi : FI G s H locs ph nL M X ls L st) : FI G s H locs ph nL M X ls L (pI x :: st) := fi_push fi ⟨trivial, trivial⟩
theorem fi_L {x : Int64} (fi : FI G s H locs ph nL M X ls L st) : FI G s H locs ph nL M X ls L (pL x :: st) := fi_push fi ⟨trivial, trivial⟩
theorem fi_R {k a : Nat} (fi : FI G s H locs ph nL M X ls L st) (h0 : k ≠ 0) (h : okR X.2.1 k a) : FI G s H locs ph nL M X ls L (pR k a :: st) := fi_push fi ⟨fun _ => h, h0⟩
theorem fi_lr (fi : FI G s H locs ph nL M X ls L st) : LRl G nL ls L := fi.2.2.2.1
theorem fi_ok {k a : Nat} (fi : FI G s H locs ph nL M X ls L (pR k a :: st)) : k ≠ 0 ∧ okR X.2.1 k a := ⟨(fi_hd fi).2, (fi_hd fi).1 (fi_hd fi).2⟩
theorem fi_nth {k a i : Nat} (fi : FI G s H locs ph nL M X ls L st) (h : nth L i = pR k a) (h0 : k ≠ 0) : okR X.2.1 k a := by
  have h1 := fi.2.2.2.2.1 i
  rw [h] at h1
  exact h1 h0
theorem lr_at {i : Nat} {v : PV} (h : LRl G nL ls L) (hv : nth L i = v) (hg : gv v) : ls[i]? = some (.val (tvG G v)) := h.2.2.2 i v hv hg
theorem tv_r {k a : Nat} (hU : gU G = .null ∨ ∃ q, gU G = .ref q) (h : k ≤ 20) : (k = 20 ∧ tvG G (pR k a) = gU G) ∨ ∃ q, tvG G (pR k a) = .ref q := by
  show (k = 20 ∧ (bif Nat.beq k 17 then Value.ref (gC G) else bif Nat.beq k 18 then .ref (gK G a) else bif Nat.beq k 19 then .ref (gV G a) else bif Nat.beq k 20 then gU G else .ref (gb G + a)) = gU G) ∨ ∃ q, (bif Nat.beq k 17 then Value.ref (gC G) else bif Nat.beq k 18 then .ref (gK G a) else bif Nat.beq k 19 then .ref (gV G a) else bif Nat.beq k 20 then gU G else .ref (gb G + a)) = .ref q
  by_cases h1 : k = 17
  · subst h1; exact Or.inr ⟨_, rfl⟩
  rw [nbeq_f h1]
  by_cases h2 : k = 18
  · subst h2; exact Or.inr ⟨_, rfl⟩
  rw [nbeq_f h2]
  by_cases h3 : k = 19
  · subst h3; exact Or.inr ⟨_, rfl⟩
  rw [nbeq_f h3]
  by_cases h4 : k = 20
  · subst h4; exact Or.inl ⟨rfl, rfl⟩
  rw [nbeq_f h4]
  exact Or.inr ⟨_, rfl⟩
theorem tv_ref {k a : Nat} (h : k ≤ 16) : tvG G (pR k a) = .ref (gb G + a) := by
  show (bif Nat.beq k 17 then Value.ref (gC G) else bif Nat.beq k 18 then .ref (gK G a) else bif Nat.beq k 19 then .ref (gV G a) else bif Nat.beq k 20 then gU G else .ref (gb G + a)) = _
  rw [nbeq_f (by omega), nbeq_f (by omega), nbeq_f (by omega), nbeq_f (by omega)]
  rfl
theorem plen_pset : ∀ (L : List PV) (i : Nat) (v : PV), plen (pset L i v) = plen L
  | [], _, _ => rfl
  | _ :: _, 0, _ => rfl
  | _ :: L, i + 1, v => congrArg (· + 1) (plen_pset L i v)
theorem nth_pset : ∀ (L : List PV) (i : Nat) (v : PV) (j : Nat), i < plen L → nth (pset L i v) j = if j = i then v else nth L j
  | [], _, _, _, h => absurd h (Nat.not_lt_zero _)
  | _ :: _, 0, _, 0, _ => rfl
  | _ :: _, 0, _, j + 1, _ => by simp [pset, nth]
  | _ :: _, i + 1, _, 0, _ => by simp [pset, nth]
  | _ :: L, i + 1, v, j + 1, h => by
    have h1 := nth_pset L i v j (Nat.lt_of_succ_lt_succ h)
    simp only [pset, nth, h1, Nat.add_right_cancel_iff]
theorem plen_kll (L : List PV) (i : Nat) : plen (kll L i) = plen L := by
  unfold kll; split
  · rfl
  · split
    · exact plen_pset _ _ _
    · rfl
theorem nth_kll (L : List PV) (i j : Nat) (hi : i < plen L + 1) : nth (kll L i) j = nth L j ∨ (nth (kll L i) j = p0 ∧ j + 1 = i ∧ ∃ x, nth L j = pL x) := by
  unfold kll; split
  · exact Or.inl rfl
  · next k =>
    split
    · next x hx =>
      rw [nth_pset _ _ _ _ (Nat.lt_of_succ_lt_succ hi)]
      by_cases hj : j = k
      · subst hj; rw [if_pos rfl]; exact Or.inr ⟨rfl, rfl, x, hx⟩
      · rw [if_neg hj]; exact Or.inl rfl
    · exact Or.inl rfl
theorem kll_long (L : List PV) (i j : Nat) (hi : i < plen L + 1) {x : Int64} (hj : j + 1 = i) (h : nth L j = pL x) : nth (kll L i) j = p0 := by
  subst hj
  show nth (match nth L j with | .inr (.inl _) => pset L j p0 | _ => L) j = p0
  rw [h]
  show nth (pset L j p0) j = p0
  rw [nth_pset _ _ _ _ (Nat.lt_of_succ_lt_succ hi), if_pos rfl]
def lvL (G : EG) (n : Nat) (L : List PV) : List (Nat × Value) := (List.range n).filterMap fun i => match nth L i with
  | .inr (.inr (0, _)) => none
  | v => some (i, tvG G v)
theorem lvL_mem {n i : Nat} {v : PV} (hi : i < n) (hv : nth L i = v) (hg : gv v) : (i, tvG G v) ∈ lvL G n L := by
  refine List.mem_filterMap.mpr ⟨i, List.mem_range.mpr hi, ?_⟩
  rw [hv]
  rcases v with x | x | ⟨k, a⟩
  · rfl
  · rfl
  · cases k with
    | zero => exact absurd rfl hg
    | succ k => rfl
theorem lvL_of {n : Nat} {q : Nat × Value} (h : q ∈ lvL G n L) : q.1 < n ∧ ∃ v, nth L q.1 = v ∧ gv v ∧ q.2 = tvG G v := by
  obtain ⟨i, hi, hq⟩ := List.mem_filterMap.mp h
  have hi := List.mem_range.mp hi
  split at hq
  · cases hq
  · next v0 hn =>
    cases hq
    refine ⟨hi, _, rfl, ?_, rfl⟩
    rcases hv : nth L i with x | x | ⟨k, a⟩
    · trivial
    · trivial
    · intro hk
      exact hn a (by rw [hv, show k = 0 from hk])
theorem lr_has (h : LRl G nL ls L) : lv_has ls nL (lvL G nL L) := ⟨h.2.1, h.2.2.1, fun q hq => by
  obtain ⟨-, v, h1, h2, h3⟩ := lvL_of hq
  rw [h3]
  exact h.2.2.2 q.1 v h1 h2⟩
theorem cat_tv {na : Nat} {v : PV} (hU : gU G = .null ∨ ∃ q, gU G = .ref q) (hg : gv v) (hok : okV na v) : (tvG G v).category = 2 ↔ ∃ x, v = pL x := by
  rcases v with x | x | ⟨k, a⟩
  · exact ⟨fun h => (by cases h), fun ⟨_, h⟩ => (by cases h)⟩
  · exact ⟨fun _ => ⟨x, rfl⟩, fun _ => rfl⟩
  · refine ⟨fun h => ?_, fun ⟨_, h⟩ => (by cases h)⟩
    rcases tv_r (a := a) hU (hok hg).2.2.2 with ⟨-, e⟩ | ⟨q, e⟩
    · have h : (tvG G (pR k a)).category = 2 := h
      rw [e] at h
      rcases hU with e2 | ⟨q, e2⟩ <;> (rw [e2] at h; cases h)
    · have h : (tvG G (pR k a)).category = 2 := h
      rw [e] at h
      cases h
/-- behind a store of one slot -/
theorem lr_st1 {i : Nat} {v : PV} {ls' : Array Slot} (fi : FI G s H locs ph nL M X ls L st) (hi : i < plen L) (h : lv_has ls' nL ((i, tvG G v) :: (lvL G nL L).filter (fun q => !(q.1 == i) && !(q.1 + 1 == i && q.2.category == 2)))) : LRl G nL ls' (st1 L i v) := by
  have hn : plen L = nL := (fi_lr fi).1
  refine ⟨by unfold st1; rw [plen_pset, plen_kll]; exact hn, h.1, h.2.1, fun j w hj hg => ?_⟩
  have e1 : nth (st1 L i v) j = if j = i then v else nth (kll L i) j := nth_pset _ _ _ _ (by rw [plen_kll]; exact hi)
  rw [e1] at hj
  by_cases hji : j = i
  · rw [if_pos hji] at hj
    subst hji; subst hj
    exact h.2.2 _ List.mem_cons_self
  · rw [if_neg hji] at hj
    rcases nth_kll L i j (by omega) with e2 | ⟨e2, -, -⟩
    · rw [e2] at hj
      have hjn : j < nL := by
        rcases Nat.lt_or_ge j nL with q | q
        · exact q
        · exfalso
          rw [← hn] at q
          rw [nth_out _ _ q] at hj
          rw [← hj] at hg
          exact hg rfl
      have hm := lvL_mem (G := G) hjn hj hg
      refine h.2.2 (j, tvG G w) (List.mem_cons_of_mem _ (List.mem_filter.mpr ⟨hm, ?_⟩))
      have c1 : (j == i) = false := by simpa using hji
      by_cases hj1 : j + 1 = i
      · have c2 : ((tvG G w).category == 2) = false := by
          cases hb : (tvG G w).category == 2 with
          | false => rfl
          | true =>
            exfalso
            obtain ⟨x, hx⟩ := (cat_tv fi.2.2.2.2.2.2 hg (by rw [← hj]; exact fi.2.2.2.2.1 j)).mp (by simpa using hb)
            rw [hx] at hj
            rw [kll_long L i j (by omega) hj1 hj] at e2
            rw [hj] at e2
            cases e2
        simp [c1, c2]
      · have c2 : (j + 1 == i) = false := by simpa using hj1
        simp [c1, c2]
    · rw [e2] at hj
      rw [← hj] at hg
      exact absurd rfl hg
theorem lr_st2 {i : Nat} {v : PV} {ls' : Array Slot} (fi : FI G s H locs ph nL M X ls L st) (hi : i + 1 < plen L) (h : lv_has ls' nL ((i, tvG G v) :: (lvL G nL L).filter (fun q => !(q.1 == i) && (!(q.1 == i + 1) && !(q.1 + 1 == i && q.2.category == 2))))) : LRl G nL ls' (st2 L i v) := by
  have hn : plen L = nL := (fi_lr fi).1
  refine ⟨by unfold st2; rw [plen_pset, plen_pset, plen_kll]; exact hn, h.1, h.2.1, fun j w hj hg => ?_⟩
  have e1 : nth (st2 L i v) j = if j = i + 1 then p0 else if j = i then v else nth (kll L i) j := by
    unfold st2
    rw [nth_pset _ _ _ _ (by rw [plen_pset, plen_kll]; exact hi), nth_pset _ _ _ _ (by rw [plen_kll]; omega)]
  rw [e1] at hj
  by_cases hj2 : j = i + 1
  · rw [if_pos hj2] at hj
    rw [← hj] at hg
    exact absurd rfl hg
  rw [if_neg hj2] at hj
  by_cases hji : j = i
  · rw [if_pos hji] at hj
    subst hji; subst hj
    exact h.2.2 _ List.mem_cons_self
  · rw [if_neg hji] at hj
    rcases nth_kll L i j (by omega) with e2 | ⟨e2, -, -⟩
    · rw [e2] at hj
      have hjn : j < nL := by
        rcases Nat.lt_or_ge j nL with q | q
        · exact q
        · exfalso
          rw [← hn] at q
          rw [nth_out _ _ q] at hj
          rw [← hj] at hg
          exact hg rfl
      have hm := lvL_mem (G := G) hjn hj hg
      refine h.2.2 (j, tvG G w) (List.mem_cons_of_mem _ (List.mem_filter.mpr ⟨hm, ?_⟩))
      have c1 : (j == i) = false := by simpa using hji
      have c3 : (j == i + 1) = false := by simpa using hj2
      by_cases hj1 : j + 1 = i
      · have c2 : ((tvG G w).category == 2) = false := by
          cases hb : (tvG G w).category == 2 with
          | false => rfl
          | true =>
            exfalso
            obtain ⟨x, hx⟩ := (cat_tv fi.2.2.2.2.2.2 hg (by rw [← hj]; exact fi.2.2.2.2.1 j)).mp (by simpa using hb)
            rw [hx] at hj
            rw [kll_long L i j (by omega) hj1 hj] at e2
            rw [hj] at e2
            cases e2
        simp [c1, c2, c3]
      · have c2 : (j + 1 == i) = false := by simpa using hj1
        simp [c1, c2, c3]
    · rw [e2] at hj
      rw [← hj] at hg
      exact absurd rfl hg
theorem ok_st1 {i j : Nat} {v : PV} (fi : FI G s H locs ph nL M X ls L st) (hi : i < plen L) (hv : okV X.2.1 v) : okV X.2.1 (nth (st1 L i v) j) := by
  have e1 : nth (st1 L i v) j = if j = i then v else nth (kll L i) j := nth_pset _ _ _ _ (by rw [plen_kll]; exact hi)
  rw [e1]
  split
  · exact hv
  · rcases nth_kll L i j (by omega) with e2 | ⟨e2, -, -⟩
    · rw [e2]; exact fi.2.2.2.2.1 j
    · rw [e2]; exact fun h => absurd rfl h
theorem ok_st2 {i j : Nat} {v : PV} (fi : FI G s H locs ph nL M X ls L st) (hi : i + 1 < plen L) (hv : okV X.2.1 v) : okV X.2.1 (nth (st2 L i v) j) := by
  have e1 : nth (st2 L i v) j = if j = i + 1 then p0 else if j = i then v else nth (kll L i) j := by
    unfold st2
    rw [nth_pset _ _ _ _ (by rw [plen_pset, plen_kll]; exact hi), nth_pset _ _ _ _ (by rw [plen_kll]; omega)]
  rw [e1]
  split
  · exact fun h => absurd rfl h
  split
  · exact hv
  · rcases nth_kll L i j (by omega) with e2 | ⟨e2, -, -⟩
    · rw [e2]; exact fi.2.2.2.2.1 j
    · rw [e2]; exact fun h => absurd rfl h
theorem fi_st1 {i : Nat} {v : PV} {ls' : Array Slot} (fi : FI G s H locs ph nL M X ls L st) (hi : i < plen L) (hv : okV X.2.1 v) (h : lv_has ls' nL ((i, tvG G v) :: (lvL G nL L).filter (fun q => !(q.1 == i) && !(q.1 + 1 == i && q.2.category == 2)))) : FI G s H locs ph nL M X ls' (st1 L i v) st :=
  ⟨fi.1, fi.2.1, fi.2.2.1, lr_st1 fi hi h, fun _ => ok_st1 fi hi hv, fi.2.2.2.2.2⟩
theorem fi_st2 {i : Nat} {v : PV} {ls' : Array Slot} (fi : FI G s H locs ph nL M X ls L st) (hi : i + 1 < plen L) (hv : okV X.2.1 v) (h : lv_has ls' nL ((i, tvG G v) :: (lvL G nL L).filter (fun q => !(q.1 == i) && (!(q.1 == i + 1) && !(q.1 + 1 == i && q.2.category == 2))))) : FI G s H locs ph nL M X ls' (st2 L i v) st :=
  ⟨fi.1, fi.2.1, fi.2.2.1, lr_st2 fi hi h, fun _ => ok_st2 fi hi hv, fi.2.2.2.2.2⟩

theorem cat1 {v : PV} (fi : FI G s H locs ph nL M X ls L st) (h : okV X.2.1 v ∧ gv v) (hn : ∀ x, v ≠ pL x) : (tvG G v).category = 1 := by
  rcases lv_cat (tvG G v) with q | q
  · exact q
  · obtain ⟨x, hx⟩ := (cat_tv fi.2.2.2.2.2.2 h.2 h.1).mp q
    exact absurd hx (hn x)
theorem one_inv {v w : PV} {q : List PV} (h : [v] = w :: q) : v = w := by cases h; rfl
theorem lt_of_blt {a b : Nat} (h : Nat.blt a b = true) : a < b := Nat.le_of_ble_eq_true h
theorem fr_iconst {n : Int} (hx : p.tables.exec = Jvm.exec) (hb : c.code = cc) (ih : IHK p l e R s m args below meth c Q G mi nL ph K r0) (fi : FI G s H locs ph nL M X ls L st) (h : stp ph cl mi lv K (pc, .iconst n, 1, tg, cv) L st M X = some r0) (hd : decode cc pc = .ok (.iconst n, 1)) (hv : Int32.ofInt n = cv) : W p l e R s m args below meth c H locs (cX mi X) (sX mi X) Q (F0 m pc ls ((st).map (tvG G))) := by
  unfold stp at h
  dsimp only at h
  exact lv_iconst hx hb hd hv (ih _ _ _ _ _ _ _ _ h (fi_I fi))
theorem fr_bipush {n : Int} (hx : p.tables.exec = Jvm.exec) (hb : c.code = cc) (ih : IHK p l e R s m args below meth c Q G mi nL ph K r0) (fi : FI G s H locs ph nL M X ls L st) (h : stp ph cl mi lv K (pc, .bipush n, 2, tg, cv) L st M X = some r0) (hd : decode cc pc = .ok (.bipush n, 2)) (hv : (Int8.ofInt n).toInt32 = cv) : W p l e R s m args below meth c H locs (cX mi X) (sX mi X) Q (F0 m pc ls ((st).map (tvG G))) := by
  unfold stp at h
  dsimp only at h
  exact lv_bipush hx hb hd hv (ih _ _ _ _ _ _ _ _ h (fi_I fi))
theorem fr_sipush {n : Int} (hx : p.tables.exec = Jvm.exec) (hb : c.code = cc) (ih : IHK p l e R s m args below meth c Q G mi nL ph K r0) (fi : FI G s H locs ph nL M X ls L st) (h : stp ph cl mi lv K (pc, .sipush n, 3, tg, cv) L st M X = some r0) (hd : decode cc pc = .ok (.sipush n, 3)) (hv : (Int16.ofInt n).toInt32 = cv) : W p l e R s m args below meth c H locs (cX mi X) (sX mi X) Q (F0 m pc ls ((st).map (tvG G))) := by
  unfold stp at h
  dsimp only at h
  exact lv_sipush hx hb hd hv (ih _ _ _ _ _ _ _ _ h (fi_I fi))
theorem fr_lconst {k : Fin 2} (hx : p.tables.exec = Jvm.exec) (hb : c.code = cc) (ih : IHK p l e R s m args below meth c Q G mi nL ph K r0) (fi : FI G s H locs ph nL M X ls L st) (h : stp ph cl mi lv K (pc, .lconst k, 1, tg, cv) L st M X = some r0) (hd : decode cc pc = .ok (.lconst k, 1)) : W p l e R s m args below meth c H locs (cX mi X) (sX mi X) Q (F0 m pc ls ((st).map (tvG G))) := by
  unfold stp at h
  dsimp only at h
  refine lv_lconst (v := bif Nat.beq k.val 0 then 0 else 1) hx hb hd ?_ (ih _ _ _ _ _ _ _ _ h (fi_L fi))
  match k with
  | 0 => rfl
  | 1 => rfl
theorem fr_iload_n {k : Fin 4} (hx : p.tables.exec = Jvm.exec) (hb : c.code = cc) (ih : IHK p l e R s m args below meth c Q G mi nL ph K r0) (fi : FI G s H locs ph nL M X ls L st) (h : stp ph cl mi lv K (pc, .iload_n k, 1, tg, cv) L st M X = some r0) (hd : decode cc pc = .ok (.iload_n k, 1)) : W p l e R s m args below meth c H locs (cX mi X) (sX mi X) Q (F0 m pc ls ((st).map (tvG G))) := by
  unfold stp at h
  dsimp only at h
  obtain ⟨x, q, hq, h⟩ := u1_inv h
  exact lv_iload_n hx hb hd rfl (lr_at (fi_lr fi) (one_inv hq) trivial) (ih _ _ _ _ _ _ _ _ h (fi_I fi))
theorem fr_iload {k : Nat} (hx : p.tables.exec = Jvm.exec) (hb : c.code = cc) (ih : IHK p l e R s m args below meth c Q G mi nL ph K r0) (fi : FI G s H locs ph nL M X ls L st) (h : stp ph cl mi lv K (pc, .iload k, 2, tg, cv) L st M X = some r0) (hd : decode cc pc = .ok (.iload k, 2)) : W p l e R s m args below meth c H locs (cX mi X) (sX mi X) Q (F0 m pc ls ((st).map (tvG G))) := by
  unfold stp at h
  dsimp only at h
  obtain ⟨x, q, hq, h⟩ := u1_inv h
  exact lv_iload hx hb hd (lr_at (fi_lr fi) (one_inv hq) trivial) (ih _ _ _ _ _ _ _ _ h (fi_I fi))
theorem fr_lload_n {k : Fin 4} (hx : p.tables.exec = Jvm.exec) (hb : c.code = cc) (ih : IHK p l e R s m args below meth c Q G mi nL ph K r0) (fi : FI G s H locs ph nL M X ls L st) (h : stp ph cl mi lv K (pc, .lload_n k, 1, tg, cv) L st M X = some r0) (hd : decode cc pc = .ok (.lload_n k, 1)) : W p l e R s m args below meth c H locs (cX mi X) (sX mi X) Q (F0 m pc ls ((st).map (tvG G))) := by
  unfold stp at h
  dsimp only at h
  obtain ⟨x, q, hq, h⟩ := ul1_inv h
  exact lv_lload_n hx hb hd rfl (lr_at (fi_lr fi) (one_inv hq) trivial) (ih _ _ _ _ _ _ _ _ h (fi_L fi))
theorem fr_lload {k : Nat} (hx : p.tables.exec = Jvm.exec) (hb : c.code = cc) (ih : IHK p l e R s m args below meth c Q G mi nL ph K r0) (fi : FI G s H locs ph nL M X ls L st) (h : stp ph cl mi lv K (pc, .lload k, 2, tg, cv) L st M X = some r0) (hd : decode cc pc = .ok (.lload k, 2)) : W p l e R s m args below meth c H locs (cX mi X) (sX mi X) Q (F0 m pc ls ((st).map (tvG G))) := by
  unfold stp at h
  dsimp only at h
  obtain ⟨x, q, hq, h⟩ := ul1_inv h
  exact lv_lload hx hb hd (lr_at (fi_lr fi) (one_inv hq) trivial) (ih _ _ _ _ _ _ _ _ h (fi_L fi))
theorem fr_aload_n {k : Fin 4} (hx : p.tables.exec = Jvm.exec) (hb : c.code = cc) (ih : IHK p l e R s m args below meth c Q G mi nL ph K r0) (fi : FI G s H locs ph nL M X ls L st) (h : stp ph cl mi lv K (pc, .aload_n k, 1, tg, cv) L st M X = some r0) (hd : decode cc pc = .ok (.aload_n k, 1)) : W p l e R s m args below meth c H locs (cX mi X) (sX mi X) Q (F0 m pc ls ((st).map (tvG G))) := by
  unfold stp at h
  dsimp only at h
  obtain ⟨t, a, q, hq, h⟩ := ur1_inv h
  obtain ⟨h0, h⟩ := bif_ninv h
  have h0 := nbeq_n h0
  have ho := fi_nth fi (one_inv hq) h0
  have ha := lr_at (fi_lr fi) (one_inv hq) (show gv (pR t a) from h0)
  have k9 := ih _ _ _ _ _ _ _ _ h (fi_R fi h0 ho)
  have k9 : W p l e R s m args below meth c H locs (cX mi X) (sX mi X) Q (F0 m (pc + 1) ls (tvG G (pR t a) :: st.map (tvG G))) := k9
  rcases tv_r (a := a) fi.2.2.2.2.2.2 ho.2.2.2 with ⟨-, e⟩ | ⟨b, e⟩
  · rw [e] at ha k9
    rcases fi.2.2.2.2.2.2 with e2 | ⟨b, e2⟩
    · rw [e2] at ha k9
      exact lv_aload_nN hx hb hd rfl ha k9
    · rw [e2] at ha k9
      exact lv_aload_n hx hb hd rfl ha k9
  · rw [e] at ha k9
    exact lv_aload_n hx hb hd rfl ha k9
theorem fr_aload {k : Nat} (hx : p.tables.exec = Jvm.exec) (hb : c.code = cc) (ih : IHK p l e R s m args below meth c Q G mi nL ph K r0) (fi : FI G s H locs ph nL M X ls L st) (h : stp ph cl mi lv K (pc, .aload k, 2, tg, cv) L st M X = some r0) (hd : decode cc pc = .ok (.aload k, 2)) : W p l e R s m args below meth c H locs (cX mi X) (sX mi X) Q (F0 m pc ls ((st).map (tvG G))) := by
  unfold stp at h
  dsimp only at h
  obtain ⟨t, a, q, hq, h⟩ := ur1_inv h
  obtain ⟨h0, h⟩ := bif_ninv h
  have h0 := nbeq_n h0
  have ho := fi_nth fi (one_inv hq) h0
  have ha := lr_at (fi_lr fi) (one_inv hq) (show gv (pR t a) from h0)
  have k9 := ih _ _ _ _ _ _ _ _ h (fi_R fi h0 ho)
  have k9 : W p l e R s m args below meth c H locs (cX mi X) (sX mi X) Q (F0 m (pc + 2) ls (tvG G (pR t a) :: st.map (tvG G))) := k9
  rcases tv_r (a := a) fi.2.2.2.2.2.2 ho.2.2.2 with ⟨-, e⟩ | ⟨b, e⟩
  · rw [e] at ha k9
    rcases fi.2.2.2.2.2.2 with e2 | ⟨b, e2⟩
    · rw [e2] at ha k9
      exact lv_aloadN hx hb hd ha k9
    · rw [e2] at ha k9
      exact lv_aload hx hb hd ha k9
  · rw [e] at ha k9
    exact lv_aload hx hb hd ha k9
theorem fr_istore_n {k : Fin 4} (hx : p.tables.exec = Jvm.exec) (hb : c.code = cc) (ih : IHK p l e R s m args below meth c Q G mi nL ph K r0) (fi : FI G s H locs ph nL M X ls L st) (h : stp ph cl mi lv K (pc, .istore_n k, 1, tg, cv) L st M X = some r0) (hd : decode cc pc = .ok (.istore_n k, 1)) : W p l e R s m args below meth c H locs (cX mi X) (sX mi X) Q (F0 m pc ls ((st).map (tvG G))) := by
  unfold stp at h
  dsimp only at h
  obtain ⟨x, q, rfl, h⟩ := u1_inv h
  obtain ⟨hi, h⟩ := bif_inv h
  have hi := lt_of_blt hi
  have hn := (fi_lr fi).1
  exact lv_istore_n hx hb hd rfl (lr_has (fi_lr fi)) (by omega) rfl (fun ls' h' => ih _ _ _ _ _ _ _ _ h (fi_st1 (fi_tl fi) hi trivial h'))
theorem fr_istore {k : Nat} (hx : p.tables.exec = Jvm.exec) (hb : c.code = cc) (ih : IHK p l e R s m args below meth c Q G mi nL ph K r0) (fi : FI G s H locs ph nL M X ls L st) (h : stp ph cl mi lv K (pc, .istore k, 2, tg, cv) L st M X = some r0) (hd : decode cc pc = .ok (.istore k, 2)) : W p l e R s m args below meth c H locs (cX mi X) (sX mi X) Q (F0 m pc ls ((st).map (tvG G))) := by
  unfold stp at h
  dsimp only at h
  obtain ⟨x, q, rfl, h⟩ := u1_inv h
  obtain ⟨hi, h⟩ := bif_inv h
  have hi := lt_of_blt hi
  have hn := (fi_lr fi).1
  exact lv_istore hx hb hd (lr_has (fi_lr fi)) (by omega) rfl (fun ls' h' => ih _ _ _ _ _ _ _ _ h (fi_st1 (fi_tl fi) hi trivial h'))
theorem fr_lstore_n {k : Fin 4} (hx : p.tables.exec = Jvm.exec) (hb : c.code = cc) (ih : IHK p l e R s m args below meth c Q G mi nL ph K r0) (fi : FI G s H locs ph nL M X ls L st) (h : stp ph cl mi lv K (pc, .lstore_n k, 1, tg, cv) L st M X = some r0) (hd : decode cc pc = .ok (.lstore_n k, 1)) : W p l e R s m args below meth c H locs (cX mi X) (sX mi X) Q (F0 m pc ls ((st).map (tvG G))) := by
  unfold stp at h
  dsimp only at h
  obtain ⟨x, q, rfl, h⟩ := ul1_inv h
  obtain ⟨hi, h⟩ := bif_inv h
  have hi := lt_of_blt hi
  have hn := (fi_lr fi).1
  exact lv_lstore_n hx hb hd rfl (lr_has (fi_lr fi)) (by omega) rfl (fun ls' h' => ih _ _ _ _ _ _ _ _ h (fi_st2 (fi_tl fi) hi trivial h'))
theorem fr_lstore {k : Nat} (hx : p.tables.exec = Jvm.exec) (hb : c.code = cc) (ih : IHK p l e R s m args below meth c Q G mi nL ph K r0) (fi : FI G s H locs ph nL M X ls L st) (h : stp ph cl mi lv K (pc, .lstore k, 2, tg, cv) L st M X = some r0) (hd : decode cc pc = .ok (.lstore k, 2)) : W p l e R s m args below meth c H locs (cX mi X) (sX mi X) Q (F0 m pc ls ((st).map (tvG G))) := by
  unfold stp at h
  dsimp only at h
  obtain ⟨x, q, rfl, h⟩ := ul1_inv h
  obtain ⟨hi, h⟩ := bif_inv h
  have hi := lt_of_blt hi
  have hn := (fi_lr fi).1
  exact lv_lstore hx hb hd (lr_has (fi_lr fi)) (by omega) rfl (fun ls' h' => ih _ _ _ _ _ _ _ _ h (fi_st2 (fi_tl fi) hi trivial h'))
theorem fr_astore_n {k : Fin 4} (hx : p.tables.exec = Jvm.exec) (hb : c.code = cc) (ih : IHK p l e R s m args below meth c Q G mi nL ph K r0) (fi : FI G s H locs ph nL M X ls L st) (h : stp ph cl mi lv K (pc, .astore_n k, 1, tg, cv) L st M X = some r0) (hd : decode cc pc = .ok (.astore_n k, 1)) : W p l e R s m args below meth c H locs (cX mi X) (sX mi X) Q (F0 m pc ls ((st).map (tvG G))) := by
  unfold stp at h
  dsimp only at h
  obtain ⟨t, a, q, rfl, h⟩ := ur1_inv h
  obtain ⟨hi, h⟩ := bif_inv h
  have hi := lt_of_blt hi
  have hn := (fi_lr fi).1
  obtain ⟨h0, ho⟩ := fi_ok fi
  have k9 := fun (ls' : Array Slot) (h' : lv_has ls' nL ((k.val, tvG G (pR t a)) :: (lvL G nL L).filter (fun q => !(q.1 == k.val) && !(q.1 + 1 == k.val && q.2.category == 2)))) => ih _ _ _ _ _ _ _ _ h (fi_st1 (fi_tl fi) hi (fun _ => ho) h')
  show W p l e R s m args below meth c H locs (cX mi X) (sX mi X) Q (F0 m pc ls (tvG G (pR t a) :: q.map (tvG G)))
  rcases tv_r (a := a) fi.2.2.2.2.2.2 ho.2.2.2 with ⟨-, e⟩ | ⟨b, e⟩
  · rw [e] at k9 ⊢
    rcases fi.2.2.2.2.2.2 with e2 | ⟨b, e2⟩
    · rw [e2] at k9 ⊢
      exact lv_astore_nN hx hb hd rfl (lr_has (fi_lr fi)) (by omega) rfl k9
    · rw [e2] at k9 ⊢
      exact lv_astore_n hx hb hd rfl (lr_has (fi_lr fi)) (by omega) rfl k9
  · rw [e] at k9 ⊢
    exact lv_astore_n hx hb hd rfl (lr_has (fi_lr fi)) (by omega) rfl k9
theorem fr_astore {k : Nat} (hx : p.tables.exec = Jvm.exec) (hb : c.code = cc) (ih : IHK p l e R s m args below meth c Q G mi nL ph K r0) (fi : FI G s H locs ph nL M X ls L st) (h : stp ph cl mi lv K (pc, .astore k, 2, tg, cv) L st M X = some r0) (hd : decode cc pc = .ok (.astore k, 2)) : W p l e R s m args below meth c H locs (cX mi X) (sX mi X) Q (F0 m pc ls ((st).map (tvG G))) := by
  unfold stp at h
  dsimp only at h
  obtain ⟨t, a, q, rfl, h⟩ := ur1_inv h
  obtain ⟨hi, h⟩ := bif_inv h
  have hi := lt_of_blt hi
  have hn := (fi_lr fi).1
  obtain ⟨h0, ho⟩ := fi_ok fi
  have k9 := fun (ls' : Array Slot) (h' : lv_has ls' nL ((k, tvG G (pR t a)) :: (lvL G nL L).filter (fun q => !(q.1 == k) && !(q.1 + 1 == k && q.2.category == 2)))) => ih _ _ _ _ _ _ _ _ h (fi_st1 (fi_tl fi) hi (fun _ => ho) h')
  show W p l e R s m args below meth c H locs (cX mi X) (sX mi X) Q (F0 m pc ls (tvG G (pR t a) :: q.map (tvG G)))
  rcases tv_r (a := a) fi.2.2.2.2.2.2 ho.2.2.2 with ⟨-, e⟩ | ⟨b, e⟩
  · rw [e] at k9 ⊢
    rcases fi.2.2.2.2.2.2 with e2 | ⟨b, e2⟩
    · rw [e2] at k9 ⊢
      exact lv_astoreN hx hb hd (lr_has (fi_lr fi)) (by omega) rfl k9
    · rw [e2] at k9 ⊢
      exact lv_astore hx hb hd (lr_has (fi_lr fi)) (by omega) rfl k9
  · rw [e] at k9 ⊢
    exact lv_astore hx hb hd (lr_has (fi_lr fi)) (by omega) rfl k9
theorem fr_iinc {k : Nat} {n : Int} (hx : p.tables.exec = Jvm.exec) (hb : c.code = cc) (ih : IHK p l e R s m args below meth c Q G mi nL ph K r0) (fi : FI G s H locs ph nL M X ls L st) (h : stp ph cl mi lv K (pc, .iinc k n, 3, tg, cv) L st M X = some r0) (hd : decode cc pc = .ok (.iinc k n, 3)) (hv : Int32.ofInt n = cv) : W p l e R s m args below meth c H locs (cX mi X) (sX mi X) Q (F0 m pc ls ((st).map (tvG G))) := by
  unfold stp at h
  dsimp only at h
  obtain ⟨x, q, hq, h⟩ := u1_inv h
  obtain ⟨hi, h⟩ := bif_inv h
  have hi := lt_of_blt hi
  have hn := (fi_lr fi).1
  have hm := lvL_mem (G := G) (n := nL) (by omega) (one_inv hq) trivial
  obtain ⟨j, hj⟩ := List.getElem?_of_mem hm
  exact lv_iinc (k := j) hx hb hd (lr_has (fi_lr fi)) hj (by rw [hv]) (by omega) rfl (fun ls' h' => ih _ _ _ _ _ _ _ _ h (fi_st1 fi hi trivial h'))
theorem fr_iadd (hx : p.tables.exec = Jvm.exec) (hb : c.code = cc) (ih : IHK p l e R s m args below meth c Q G mi nL ph K r0) (fi : FI G s H locs ph nL M X ls L st) (h : stp ph cl mi lv K (pc, .iadd, 1, tg, cv) L st M X = some r0) (hd : decode cc pc = .ok (.iadd, 1)) : W p l e R s m args below meth c H locs (cX mi X) (sX mi X) Q (F0 m pc ls ((st).map (tvG G))) := by
  unfold stp at h
  dsimp only at h
  obtain ⟨x, y, q, rfl, h⟩ := u2_inv h
  exact lv_iadd hx hb hd (ih _ _ _ _ _ _ _ _ h (fi_I (fi_tl (fi_tl fi))))
theorem fr_isub (hx : p.tables.exec = Jvm.exec) (hb : c.code = cc) (ih : IHK p l e R s m args below meth c Q G mi nL ph K r0) (fi : FI G s H locs ph nL M X ls L st) (h : stp ph cl mi lv K (pc, .isub, 1, tg, cv) L st M X = some r0) (hd : decode cc pc = .ok (.isub, 1)) : W p l e R s m args below meth c H locs (cX mi X) (sX mi X) Q (F0 m pc ls ((st).map (tvG G))) := by
  unfold stp at h
  dsimp only at h
  obtain ⟨x, y, q, rfl, h⟩ := u2_inv h
  exact lv_isub hx hb hd (ih _ _ _ _ _ _ _ _ h (fi_I (fi_tl (fi_tl fi))))
theorem fr_imul (hx : p.tables.exec = Jvm.exec) (hb : c.code = cc) (ih : IHK p l e R s m args below meth c Q G mi nL ph K r0) (fi : FI G s H locs ph nL M X ls L st) (h : stp ph cl mi lv K (pc, .imul, 1, tg, cv) L st M X = some r0) (hd : decode cc pc = .ok (.imul, 1)) : W p l e R s m args below meth c H locs (cX mi X) (sX mi X) Q (F0 m pc ls ((st).map (tvG G))) := by
  unfold stp at h
  dsimp only at h
  obtain ⟨x, y, q, rfl, h⟩ := u2_inv h
  exact lv_imul hx hb hd (ih _ _ _ _ _ _ _ _ h (fi_I (fi_tl (fi_tl fi))))
theorem fr_iand (hx : p.tables.exec = Jvm.exec) (hb : c.code = cc) (ih : IHK p l e R s m args below meth c Q G mi nL ph K r0) (fi : FI G s H locs ph nL M X ls L st) (h : stp ph cl mi lv K (pc, .iand, 1, tg, cv) L st M X = some r0) (hd : decode cc pc = .ok (.iand, 1)) : W p l e R s m args below meth c H locs (cX mi X) (sX mi X) Q (F0 m pc ls ((st).map (tvG G))) := by
  unfold stp at h
  dsimp only at h
  obtain ⟨x, y, q, rfl, h⟩ := u2_inv h
  exact lv_iand hx hb hd (ih _ _ _ _ _ _ _ _ h (fi_I (fi_tl (fi_tl fi))))
theorem fr_ior (hx : p.tables.exec = Jvm.exec) (hb : c.code = cc) (ih : IHK p l e R s m args below meth c Q G mi nL ph K r0) (fi : FI G s H locs ph nL M X ls L st) (h : stp ph cl mi lv K (pc, .ior, 1, tg, cv) L st M X = some r0) (hd : decode cc pc = .ok (.ior, 1)) : W p l e R s m args below meth c H locs (cX mi X) (sX mi X) Q (F0 m pc ls ((st).map (tvG G))) := by
  unfold stp at h
  dsimp only at h
  obtain ⟨x, y, q, rfl, h⟩ := u2_inv h
  exact lv_ior hx hb hd (ih _ _ _ _ _ _ _ _ h (fi_I (fi_tl (fi_tl fi))))
theorem fr_ishl (hx : p.tables.exec = Jvm.exec) (hb : c.code = cc) (ih : IHK p l e R s m args below meth c Q G mi nL ph K r0) (fi : FI G s H locs ph nL M X ls L st) (h : stp ph cl mi lv K (pc, .ishl, 1, tg, cv) L st M X = some r0) (hd : decode cc pc = .ok (.ishl, 1)) : W p l e R s m args below meth c H locs (cX mi X) (sX mi X) Q (F0 m pc ls ((st).map (tvG G))) := by
  unfold stp at h
  dsimp only at h
  obtain ⟨x, y, q, rfl, h⟩ := u2_inv h
  exact lv_ishl hx hb hd (ih _ _ _ _ _ _ _ _ h (fi_I (fi_tl (fi_tl fi))))
theorem fr_ishr (hx : p.tables.exec = Jvm.exec) (hb : c.code = cc) (ih : IHK p l e R s m args below meth c Q G mi nL ph K r0) (fi : FI G s H locs ph nL M X ls L st) (h : stp ph cl mi lv K (pc, .ishr, 1, tg, cv) L st M X = some r0) (hd : decode cc pc = .ok (.ishr, 1)) : W p l e R s m args below meth c H locs (cX mi X) (sX mi X) Q (F0 m pc ls ((st).map (tvG G))) := by
  unfold stp at h
  dsimp only at h
  obtain ⟨x, y, q, rfl, h⟩ := u2_inv h
  exact lv_ishr hx hb hd (ih _ _ _ _ _ _ _ _ h (fi_I (fi_tl (fi_tl fi))))
theorem fr_irem (hx : p.tables.exec = Jvm.exec) (hb : c.code = cc) (ih : IHK p l e R s m args below meth c Q G mi nL ph K r0) (fi : FI G s H locs ph nL M X ls L st) (h : stp ph cl mi lv K (pc, .irem, 1, tg, cv) L st M X = some r0) (hd : decode cc pc = .ok (.irem, 1)) : W p l e R s m args below meth c H locs (cX mi X) (sX mi X) Q (F0 m pc ls ((st).map (tvG G))) := by
  unfold stp at h
  dsimp only at h
  obtain ⟨x, y, q, rfl, h⟩ := u2_inv h
  obtain ⟨h0, h⟩ := ite_ninv h
  exact lv_irem hx hb hd h0 (ih _ _ _ _ _ _ _ _ h (fi_I (fi_tl (fi_tl fi))))
theorem fr_ineg (hx : p.tables.exec = Jvm.exec) (hb : c.code = cc) (ih : IHK p l e R s m args below meth c Q G mi nL ph K r0) (fi : FI G s H locs ph nL M X ls L st) (h : stp ph cl mi lv K (pc, .ineg, 1, tg, cv) L st M X = some r0) (hd : decode cc pc = .ok (.ineg, 1)) : W p l e R s m args below meth c H locs (cX mi X) (sX mi X) Q (F0 m pc ls ((st).map (tvG G))) := by
  unfold stp at h
  dsimp only at h
  obtain ⟨x, q, rfl, h⟩ := u1_inv h
  exact lv_ineg hx hb hd (ih _ _ _ _ _ _ _ _ h (fi_I (fi_tl fi)))
theorem fr_i2c (hx : p.tables.exec = Jvm.exec) (hb : c.code = cc) (ih : IHK p l e R s m args below meth c Q G mi nL ph K r0) (fi : FI G s H locs ph nL M X ls L st) (h : stp ph cl mi lv K (pc, .i2c, 1, tg, cv) L st M X = some r0) (hd : decode cc pc = .ok (.i2c, 1)) : W p l e R s m args below meth c H locs (cX mi X) (sX mi X) Q (F0 m pc ls ((st).map (tvG G))) := by
  unfold stp at h
  dsimp only at h
  obtain ⟨x, q, rfl, h⟩ := u1_inv h
  exact lv_i2c hx hb hd rfl (ih _ _ _ _ _ _ _ _ h (fi_I (fi_tl fi)))
theorem fr_i2l (hx : p.tables.exec = Jvm.exec) (hb : c.code = cc) (ih : IHK p l e R s m args below meth c Q G mi nL ph K r0) (fi : FI G s H locs ph nL M X ls L st) (h : stp ph cl mi lv K (pc, .i2l, 1, tg, cv) L st M X = some r0) (hd : decode cc pc = .ok (.i2l, 1)) : W p l e R s m args below meth c H locs (cX mi X) (sX mi X) Q (F0 m pc ls ((st).map (tvG G))) := by
  unfold stp at h
  dsimp only at h
  obtain ⟨x, q, rfl, h⟩ := u1_inv h
  exact lv_i2l hx hb hd rfl (ih _ _ _ _ _ _ _ _ h (fi_L (fi_tl fi)))
theorem fr_ladd (hx : p.tables.exec = Jvm.exec) (hb : c.code = cc) (ih : IHK p l e R s m args below meth c Q G mi nL ph K r0) (fi : FI G s H locs ph nL M X ls L st) (h : stp ph cl mi lv K (pc, .ladd, 1, tg, cv) L st M X = some r0) (hd : decode cc pc = .ok (.ladd, 1)) : W p l e R s m args below meth c H locs (cX mi X) (sX mi X) Q (F0 m pc ls ((st).map (tvG G))) := by
  unfold stp at h
  dsimp only at h
  obtain ⟨x, y, q, rfl, h⟩ := ul2_inv h
  exact lv_ladd hx hb hd (ih _ _ _ _ _ _ _ _ h (fi_L (fi_tl (fi_tl fi))))
theorem fr_ldiv (hx : p.tables.exec = Jvm.exec) (hb : c.code = cc) (ih : IHK p l e R s m args below meth c Q G mi nL ph K r0) (fi : FI G s H locs ph nL M X ls L st) (h : stp ph cl mi lv K (pc, .ldiv, 1, tg, cv) L st M X = some r0) (hd : decode cc pc = .ok (.ldiv, 1)) : W p l e R s m args below meth c H locs (cX mi X) (sX mi X) Q (F0 m pc ls ((st).map (tvG G))) := by
  unfold stp at h
  dsimp only at h
  obtain ⟨x, y, q, rfl, h⟩ := ul2_inv h
  obtain ⟨h0, h⟩ := ite_ninv h
  exact lv_ldiv hx hb hd h0 (ih _ _ _ _ _ _ _ _ h (fi_L (fi_tl (fi_tl fi))))
theorem fr_lrem (hx : p.tables.exec = Jvm.exec) (hb : c.code = cc) (ih : IHK p l e R s m args below meth c Q G mi nL ph K r0) (fi : FI G s H locs ph nL M X ls L st) (h : stp ph cl mi lv K (pc, .lrem, 1, tg, cv) L st M X = some r0) (hd : decode cc pc = .ok (.lrem, 1)) : W p l e R s m args below meth c H locs (cX mi X) (sX mi X) Q (F0 m pc ls ((st).map (tvG G))) := by
  unfold stp at h
  dsimp only at h
  obtain ⟨x, y, q, rfl, h⟩ := ul2_inv h
  obtain ⟨h0, h⟩ := ite_ninv h
  exact lv_lrem hx hb hd h0 (ih _ _ _ _ _ _ _ _ h (fi_L (fi_tl (fi_tl fi))))
theorem fr_lcmp (hx : p.tables.exec = Jvm.exec) (hb : c.code = cc) (ih : IHK p l e R s m args below meth c Q G mi nL ph K r0) (fi : FI G s H locs ph nL M X ls L st) (h : stp ph cl mi lv K (pc, .lcmp, 1, tg, cv) L st M X = some r0) (hd : decode cc pc = .ok (.lcmp, 1)) : W p l e R s m args below meth c H locs (cX mi X) (sX mi X) Q (F0 m pc ls ((st).map (tvG G))) := by
  unfold stp at h
  dsimp only at h
  obtain ⟨x, y, q, rfl, h⟩ := ul2_inv h
  exact W.lcmp hx hb hd (ih _ _ _ _ _ _ _ _ h (fi_I (fi_tl (fi_tl fi))))
theorem fr_dup (hx : p.tables.exec = Jvm.exec) (hb : c.code = cc) (ih : IHK p l e R s m args below meth c Q G mi nL ph K r0) (fi : FI G s H locs ph nL M X ls L st) (h : stp ph cl mi lv K (pc, .dup, 1, tg, cv) L st M X = some r0) (hd : decode cc pc = .ok (.dup, 1)) : W p l e R s m args below meth c H locs (cX mi X) (sX mi X) Q (F0 m pc ls ((st).map (tvG G))) := by
  unfold stp at h
  dsimp only at h
  obtain ⟨v, q, rfl, hn, h⟩ := utop_inv h
  exact lv_dup hx hb hd (cat1 fi (fi_hd fi) hn) (ih _ _ _ _ _ _ _ _ h (fi_push fi (fi_hd fi)))
theorem fr_pop (hx : p.tables.exec = Jvm.exec) (hb : c.code = cc) (ih : IHK p l e R s m args below meth c Q G mi nL ph K r0) (fi : FI G s H locs ph nL M X ls L st) (h : stp ph cl mi lv K (pc, .pop, 1, tg, cv) L st M X = some r0) (hd : decode cc pc = .ok (.pop, 1)) : W p l e R s m args below meth c H locs (cX mi X) (sX mi X) Q (F0 m pc ls ((st).map (tvG G))) := by
  unfold stp at h
  dsimp only at h
  obtain ⟨v, q, rfl, hn, h⟩ := utop_inv h
  exact lv_pop hx hb hd (cat1 fi (fi_hd fi) hn) (ih _ _ _ _ _ _ _ _ h (fi_tl fi))
theorem fr_dup2 (hx : p.tables.exec = Jvm.exec) (hb : c.code = cc) (ih : IHK p l e R s m args below meth c Q G mi nL ph K r0) (fi : FI G s H locs ph nL M X ls L st) (h : stp ph cl mi lv K (pc, .dup2, 1, tg, cv) L st M X = some r0) (hd : decode cc pc = .ok (.dup2, 1)) : W p l e R s m args below meth c H locs (cX mi X) (sX mi X) Q (F0 m pc ls ((st).map (tvG G))) := by
  unfold stp at h
  dsimp only at h
  obtain ⟨t, a, x, q, rfl, h⟩ := uir_inv h
  have h1 := fi_hd (fi_tl fi)
  exact lv_dup2_11 hx hb hd rfl (cat1 fi h1 (fun x q => (by cases q))) (ih _ _ _ _ _ _ _ _ h (fi_I (fi_push fi h1)))
theorem fr_goto {off : Int} (hx : p.tables.exec = Jvm.exec) (hb : c.code = cc) (ih : IHK p l e R s m args below meth c Q G mi nL ph K r0) (fi : FI G s H locs ph nL M X ls L st) (h : stp ph cl mi lv K (pc, .goto off, 3, tg, cv) L st M X = some r0) (hd : decode cc pc = .ok (.goto off, 3)) (ht : (pc : Int) + off = (tg : Int)) : W p l e R s m args below meth c H locs (cX mi X) (sX mi X) Q (F0 m pc ls ((st).map (tvG G))) := by
  unfold stp at h
  dsimp only at h
  exact lv_goto hx hb hd ht (ih _ _ _ _ _ _ _ _ h fi)
theorem fr_ifCond {k : ClassFile.Cond} {off : Int} (hx : p.tables.exec = Jvm.exec) (hb : c.code = cc) (ih : IHK p l e R s m args below meth c Q G mi nL ph K r0) (fi : FI G s H locs ph nL M X ls L st) (h : stp ph cl mi lv K (pc, .ifCond k off, 3, tg, cv) L st M X = some r0) (hd : decode cc pc = .ok (.ifCond k off, 3)) (ht : (pc : Int) + off = (tg : Int)) : W p l e R s m args below meth c H locs (cX mi X) (sX mi X) Q (F0 m pc ls ((st).map (tvG G))) := by
  unfold stp at h
  dsimp only at h
  obtain ⟨x, q, rfl, h1⟩ := u1_inv h
  cases k <;> unfold cnd at h1 <;> dsimp only at h1
  · exact lv_if_eq hx hb hd ht (fun q => by rw [if_pos q] at h1; exact ih _ _ _ _ _ _ _ _ h1 (fi_tl fi)) (fun q => by rw [if_neg q] at h1; exact ih _ _ _ _ _ _ _ _ h1 (fi_tl fi))
  · exact lv_if_ne hx hb hd ht (fun q => by rw [if_neg q] at h1; exact ih _ _ _ _ _ _ _ _ h1 (fi_tl fi)) (fun q => by rw [if_pos q] at h1; exact ih _ _ _ _ _ _ _ _ h1 (fi_tl fi))
  · exact lv_if_lt hx hb hd ht (fun q => by rw [if_pos q] at h1; exact ih _ _ _ _ _ _ _ _ h1 (fi_tl fi)) (fun q => by rw [if_neg q] at h1; exact ih _ _ _ _ _ _ _ _ h1 (fi_tl fi))
  · exact lv_if_ge hx hb hd ht (fun q => by rw [if_neg (Int32.not_lt.mpr q)] at h1; exact ih _ _ _ _ _ _ _ _ h1 (fi_tl fi)) (fun q => by rw [if_pos (Int32.not_le.mp q)] at h1; exact ih _ _ _ _ _ _ _ _ h1 (fi_tl fi))
  · exact lv_if_gt hx hb hd ht (fun q => by rw [if_pos q] at h1; exact ih _ _ _ _ _ _ _ _ h1 (fi_tl fi)) (fun q => by rw [if_neg q] at h1; exact ih _ _ _ _ _ _ _ _ h1 (fi_tl fi))
  · exact lv_if_le hx hb hd ht (fun q => by rw [if_neg (Int32.not_lt.mpr q)] at h1; exact ih _ _ _ _ _ _ _ _ h1 (fi_tl fi)) (fun q => by rw [if_pos (Int32.not_le.mp q)] at h1; exact ih _ _ _ _ _ _ _ _ h1 (fi_tl fi))
theorem fr_if_icmp {k : ClassFile.Cond} {off : Int} (hx : p.tables.exec = Jvm.exec) (hb : c.code = cc) (ih : IHK p l e R s m args below meth c Q G mi nL ph K r0) (fi : FI G s H locs ph nL M X ls L st) (h : stp ph cl mi lv K (pc, .if_icmp k off, 3, tg, cv) L st M X = some r0) (hd : decode cc pc = .ok (.if_icmp k off, 3)) (ht : (pc : Int) + off = (tg : Int)) : W p l e R s m args below meth c H locs (cX mi X) (sX mi X) Q (F0 m pc ls ((st).map (tvG G))) := by
  unfold stp at h
  dsimp only at h
  obtain ⟨x, y, q, rfl, h1⟩ := u2_inv h
  have fi2 := fi_tl (fi_tl fi)
  cases k <;> unfold cnd at h1 <;> dsimp only at h1
  · exact lv_icmp_eq hx hb hd ht (fun q => by rw [if_pos q] at h1; exact ih _ _ _ _ _ _ _ _ h1 fi2) (fun q => by rw [if_neg q] at h1; exact ih _ _ _ _ _ _ _ _ h1 fi2)
  · exact lv_icmp_ne hx hb hd ht (fun q => by rw [if_neg q] at h1; exact ih _ _ _ _ _ _ _ _ h1 fi2) (fun q => by rw [if_pos q] at h1; exact ih _ _ _ _ _ _ _ _ h1 fi2)
  · exact lv_icmp_lt hx hb hd ht (fun q => by rw [if_pos q] at h1; exact ih _ _ _ _ _ _ _ _ h1 fi2) (fun q => by rw [if_neg q] at h1; exact ih _ _ _ _ _ _ _ _ h1 fi2)
  · exact lv_icmp_ge hx hb hd ht (fun q => by rw [if_neg (Int32.not_lt.mpr q)] at h1; exact ih _ _ _ _ _ _ _ _ h1 fi2) (fun q => by rw [if_pos (Int32.not_le.mp q)] at h1; exact ih _ _ _ _ _ _ _ _ h1 fi2)
  · exact lv_icmp_gt hx hb hd ht (fun q => by rw [if_pos q] at h1; exact ih _ _ _ _ _ _ _ _ h1 fi2) (fun q => by rw [if_neg q] at h1; exact ih _ _ _ _ _ _ _ _ h1 fi2)
  · exact lv_icmp_le hx hb hd ht (fun q => by rw [if_neg (Int32.not_lt.mpr q)] at h1; exact ih _ _ _ _ _ _ _ _ h1 fi2) (fun q => by rw [if_pos (Int32.not_le.mp q)] at h1; exact ih _ _ _ _ _ _ _ _ h1 fi2)
end FRA
