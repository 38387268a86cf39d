/-! contracts; what holds at a call; the end of a method -/
theorem SI_move {G : EG} {s U : State} {H : Heap} {locs : List Loc} (h : SI G s) (hS : va_S (gA G) s.heap H locs) (hU : U.heap = H) (hW : s.WarmedH U.vm) : SI G U := by
  have hq := hS.2.1
  have hA := hW.alike
  obtain ⟨h1, h2, h3, h4, h5, h6, h7, h8, h9, h10, h11, h12⟩ := h
  refine ⟨by rw [hU]; exact Nat.le_trans h1 hS.1, va_K.moved hA h2, ?_, ?_, ?_, ?_, va_AO.moved hA h7, ?_, ?_, ?_, h11, ?_⟩
  · rw [hU]; exact vk_S.moved hA (vk_S.kept h3 hq)
  · intro o i k ho hk
    obtain ⟨g1, tx, g2⟩ := h4 o i k ho hk
    exact ⟨g1, tx, vk_R.warm hW g2⟩
  · rw [hU]; exact va_Z.moved hA (va_Z.kept h5 hq)
  · rw [hU]; exact va_Z.moved hA (va_Z.kept h6 hq)
  · intro w hw hs
    have g1 := h8 w hw hs
    cases w <;> first | exact va_Nw.warmM hW g1 | exact va_Nw.warmC hW g1 | exact va_Nw.warmD hW g1 | cases hs
  · rw [hU]; exact vx_Zq.moved hA (vx_Zq.kept h9 hq)
  · rw [hU]; exact vx_Zq.moved hA (vx_Zq.kept h10 hq)
  · rw [hU]; exact va_X.moved hA (va_X.kept h12 (hq _ (Nat.lt_of_lt_of_le h11 h1) (fun q => Nat.lt_irrefl _ (Nat.lt_of_lt_of_le h11 q))))
def hasW (i : Nat) (w : Cond) : Bool := decide (lw_tbl[i]? = some w) && goodWord w
theorem hasW_in {i : Nat} {w : Cond} (h : hasW i w = true) : w ∈ gwT := by
  unfold hasW at h
  simp only [Bool.and_eq_true, decide_eq_true_eq] at h
  exact gw_of h.1 h.2
def cdN (m : Nat) : Cond := (lw_tbl[cwT.getD m 0]?).getD (.arrayClass .int)
def yN (m : Nat) : MethodName := match cdN m with
  | .code y _ _ _ => y
  | .codeWith y _ _ _ _ => y
  | _ => arraycopyName
def byN (m : Nat) : ByteArray := match cdN m with
  | .code _ b _ _ => b
  | .codeWith _ b _ _ _ => b
  | _ => ⟨#[]⟩
def mlN (m : Nat) : Nat := match cdN m with
  | .code _ _ n _ => n
  | .codeWith _ _ n _ _ => n
  | _ => 0
def rtN (m : Nat) : Option FieldType := match cdN m with
  | .code _ _ _ r => r
  | .codeWith _ _ _ r _ => r
  | _ => none
def mkM (m : Nat) : Nat := mkT.getD m 3
def hgM (m : Nat) : Nat := (miL.getD m (0, 0, 0, 0, 0)).2.2.2.2
def rankM (m lv : Nat) : Nat := hgM m - lv
def rmM (m lv : Nat) : Room := { frames := rankM m lv, cells := mcM m, slots := msM m, locals := 60 * rankM m lv }
/-- a method's end: what the small run says -/
def Qc9 (G : EG) (ph : Bool) (r0 : PRs) : Array Value → State → Outcome → State → Prop := fun _ st oc t => ((∃ o, r0.1 = .inl o ∧ oc = .returned (o.map (tvG G))) ∧ HR G r0.2.1 r0.2.2 t.heap ∧ (ph = true → setA r0.2.2.2.1 r0.2.1 = true)) ∧ va_F (gA G) st t
def exN (e : Nat) : String := bif Nat.beq e 1 then "java/util/NoSuchElementException" else "java/lang/IllegalArgumentException"
def XC9 (G : EG) (r0 : PRs) : String → State → State → Prop := fun E st t => (∃ e, r0.1 = .inr e ∧ E = exN e) ∧ HR G r0.2.1 r0.2.2 t.heap ∧ setA r0.2.2.2.1 r0.2.1 = true ∧ va_F (gA G) st t
/-- a method's start -/
def Pc9 (G : EG) (ph : Bool) (as : List PV) (M : Mem) (X : PX) : Array Value → State → Prop := va_Pc (as.map (tvG G)) (fun U => SI G U ∧ HR G M X U.heap ∧ (ph = true → setA X.2.1 M = true))
def IN9 (G : EG) (m : Nat) (as : List PV) (X : PX) : Prop := (∀ v ∈ as, okV X.2.1 v ∧ gv v) ∧ plen (expd as) ≤ mlN m ∧ (alM m = true → X.2.2.2.1 = 0 ∧ X.2.2.2.2.1 = 0) ∧ (gU G = .null ∨ ∃ q, gU G = .ref q)
def CON (l : Launch) (G : EG) (m lv : Nat) : Prop := ∀ (ph : Bool) (as : List PV) (M : Mem) (X : PX) (q : PRs), evc ph m lv (padl (mlN m) (expd as)) M X = some q → IN9 G m as X → Met l (yN m) (cdN m :: gwT) (rmM m lv) (Pc9 G ph as M X) (Qc9 G ph q) (mcM m) (msM m) (gA G)
def CONx (l : Launch) (G : EG) (m : Nat) : Prop := ∀ (as : List PV) (M : Mem) (X : PX) (q : PRs), evc true m 0 (padl (mlN m) (expd as)) M X = some q → IN9 G m as X → vx_Met l (yN m) (cdN m :: gwT) (rmM m 0) (Pc9 G true as M X) (Qc9 G true q) (XC9 G q) (mcM m) (msM m) (gA G)
theorem Pc9_blind {G : EG} {ph : Bool} {as : List PV} {M : Mem} {X : PX} : FrameBlind (Pc9 G ph as M X) := by
  intro a U g mk h
  obtain ⟨h0, h1, h2, h3⟩ := h
  exact ⟨h0, SI_move h1 (va_S.rf (A := gA G)) rfl (State.WarmedH.refl U), h2, h3⟩
/-! the arguments as locals -/
theorem nth_padl : ∀ (n : Nat) (l : List PV) (i : Nat), nth (padl n l) i = nth l i
  | 0, _, _ => rfl
  | n + 1, [], 0 => rfl
  | n + 1, [], i + 1 => (nth_padl n [] i).trans rfl
  | n + 1, _ :: _, 0 => rfl
  | n + 1, _ :: l, i + 1 => nth_padl n l i
theorem plen_padl : ∀ (n : Nat) (l : List PV), plen l ≤ n → plen (padl n l) = n
  | 0, [], _ => rfl
  | 0, _ :: _, h => absurd h (Nat.not_succ_le_zero _)
  | n + 1, [], _ => congrArg (· + 1) (plen_padl n [] (Nat.zero_le _))
  | n + 1, _ :: l, h => congrArg (· + 1) (plen_padl n l (Nat.le_of_succ_le_succ h))
theorem cat_i {G : EG} {x : Int32} : (tvG G (pI x)).category = 1 := rfl
theorem cat_r {G : EG} {k a na : Nat} (hU : gU G = .null ∨ ∃ q, gU G = .ref q) (hg : gv (pR k a)) (hok : okV na (pR k a)) : (tvG G (pR k a)).category = 1 := by
  rcases lv_cat (tvG G (pR k a)) with h | h
  · exact h
  · obtain ⟨x, hx⟩ := (cat_tv hU hg hok).mp h
    cases hx
theorem sl_len {G : EG} {na : Nat} (hU : gU G = .null ∨ ∃ q, gU G = .ref q) : ∀ as : List PV, (∀ v ∈ as, okV na v ∧ gv v) → (lg_sl (as.map (tvG G))).length = plen (expd as)
  | [], _ => rfl
  | v :: as, h => by
    have ih := sl_len hU as fun w hw => h w (List.mem_cons_of_mem _ hw)
    have hv := h v List.mem_cons_self
    have e : ∀ w : Value, lg_sl (w :: as.map (tvG G)) = (if w.category = 2 then [.val w, .second] else [.val w]) ++ lg_sl (as.map (tvG G)) := fun w => by unfold lg_sl; rw [List.flatMap_cons]
    rw [List.map_cons, e, List.length_append, ih]
    rcases v with x | x | ⟨k, a⟩
    · rw [cat_i, if_neg (by decide)]; show 1 + _ = _ + 1; omega
    · rw [show (tvG G (pL x)).category = 2 from rfl, if_pos rfl]; show 2 + _ = _ + 1 + 1; omega
    · rw [cat_r hU hv.2 hv.1, if_neg (by decide)]; show 1 + _ = _ + 1; omega
theorem args_in {G : EG} {na : Nat} (hU : gU G = .null ∨ ∃ q, gU G = .ref q) : ∀ (as : List PV) (k i : Nat) (v : PV), (∀ v ∈ as, okV na v ∧ gv v) → nth (expd as) i = v → gv v → (k + i, tvG G v) ∈ lv_args k (as.map (tvG G))
  | [], _, _, v, _, h, hg => by
    have h : p0 = v := h
    subst h
    exact absurd rfl hg
  | w :: as, k, i, v, ha, h, hg => by
    have hw := ha w List.mem_cons_self
    have ha2 : ∀ v ∈ as, okV na v ∧ gv v := fun v hv => ha v (List.mem_cons_of_mem _ hv)
    show (k + i, tvG G v) ∈ (k, tvG G w) :: lv_args (if (tvG G w).category = 2 then k + 2 else k + 1) (as.map (tvG G))
    rcases w with x | x | ⟨c, a⟩
    · rw [cat_i, if_neg (by decide)]
      cases i with
      | zero =>
        have h : pI x = v := h
        subst h
        exact List.mem_cons_self
      | succ i =>
        have h1 := args_in hU as (k + 1) i v ha2 h hg
        rw [show k + (i + 1) = k + 1 + i by omega]
        exact List.mem_cons_of_mem _ h1
    · rw [show (tvG G (.inr (.inl x))).category = 2 from rfl, if_pos rfl]
      match i with
      | 0 =>
        have h : pL x = v := h
        subst h
        exact List.mem_cons_self
      | 1 =>
        have h : p0 = v := h
        subst h
        exact absurd rfl hg
      | i + 2 =>
        have h1 := args_in hU as (k + 2) i v ha2 h hg
        rw [show k + (i + 2) = k + 2 + i by omega]
        exact List.mem_cons_of_mem _ h1
    · rw [cat_r hU hw.2 hw.1, if_neg (by decide)]
      cases i with
      | zero =>
        have h : pR c a = v := h
        subst h
        exact List.mem_cons_self
      | succ i =>
        have h1 := args_in hU as (k + 1) i v ha2 h hg
        rw [show k + (i + 1) = k + 1 + i by omega]
        exact List.mem_cons_of_mem _ h1
theorem entry_lr {G : EG} {n na : Nat} {as : List PV} (hU : gU G = .null ∨ ∃ q, gU G = .ref q) (ha : ∀ v ∈ as, okV na v ∧ gv v) (hn : plen (expd as) ≤ n) (m : MethodId) :
    ∃ ls : Array Slot, entryFrame m (as.map (tvG G)).toArray n = F0 m 0 ls [] ∧ LRl G n ls (padl n (expd as)) := by
  have hl := lv_entry (as.map (tvG G)) (n := n) (by rw [sl_len hU as ha]; exact hn)
  refine ⟨_, lg_entry_eq m _ n, plen_padl _ _ hn, hl.1, hl.2.1, fun i v hv hg => ?_⟩
  rw [nth_padl] at hv
  have h1 := args_in hU as 0 i v ha hv hg
  rw [Nat.zero_add] at h1
  exact hl.2.2 _ h1
theorem okV_expd {na : Nat} : ∀ (as : List PV) (i : Nat), (∀ v ∈ as, okV na v) → okV na (nth (expd as) i)
  | [], _, _ => fun h => absurd rfl h
  | .inl x :: as, 0, _ => trivial
  | .inl x :: as, i + 1, h => okV_expd as i fun v hv => h v (List.mem_cons_of_mem _ hv)
  | .inr (.inl x) :: as, 0, _ => trivial
  | .inr (.inl x) :: as, 1, _ => fun h => absurd rfl h
  | .inr (.inl x) :: as, i + 2, h => okV_expd as i fun v hv => h v (List.mem_cons_of_mem _ hv)
  | .inr (.inr q) :: as, 0, h => h _ List.mem_cons_self
  | .inr (.inr q) :: as, i + 1, h => okV_expd as i fun v hv => h v (List.mem_cons_of_mem _ hv)
