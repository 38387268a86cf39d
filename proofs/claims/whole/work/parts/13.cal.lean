/-! a call out of a frame -/
section CAL
variable {p : Program} {l : Launch} {e : Env} {R : Room} {s : State} {m : MethodId} {args : Array Value} {below : List Frame} {meth : Method} {c : Code} {Q : State → Prop} {cc : ByteArray} {G : EG} {mi lv nL : Nat} {ph : Bool} {cl : Nat → Nat → List PV → Mem → PX → Option PRs} {K : KT} {r0 : PRs} {pc tg : Nat} {cv : Int32} {L st : List PV} {ls : Array Slot} {M : Mem} {X : PX} {H : Heap} {locs : List Loc}
theorem ok_le {na nb : Nat} {v : PV} (hn : na ≤ nb) (h : okV na v) : okV nb v := by
  rcases v with x | x | ⟨k, a⟩
  · trivial
  · trivial
  · intro h0
    obtain ⟨h1, h2⟩ := h h0
    exact ⟨fun q => ⟨Nat.lt_of_lt_of_le (h1 q).1 hn, (h1 q).2⟩, h2⟩
theorem bk_HR {al : Bool} {mc ms : Nat} {X1 : PX} {M1 : Mem} {H1 : Heap} (h0 : HR G M X H) (h : HR G M1 X1 H1) : HR G M1 (bkX al mc ms X X1) H1 := by
  cases al
  · exact h
  · obtain ⟨h1, h2, h3, h4, h5, h6⟩ := h
    exact ⟨h1, h2, h3, fun j hj => h4 j (by rw [h6, ← h0.2.2.2.2.2]; exact hj), h5, h0.2.2.2.2.2⟩
theorem bk_na {al : Bool} {mc ms : Nat} {X1 : PX} : (bkX al mc ms X X1).2.1 = X1.2.1 := by cases al <;> rfl
/-- a frame's facts behind a call -/
theorem fi_back {r r1 : List PV} {al : Bool} {mc ms : Nat} {X1 : PX} {M1 : Mem} {H1 : Heap} {locs1 : List Loc} (fi : FI G s H locs ph nL M X ls L r) (hh : HR G M1 X1 H1) (hset : ph = true → setA X1.2.1 M1 = true) (hS : va_S (gA G) s.heap H1 locs1) (hn : X.2.1 ≤ X1.2.1) (hr1 : ∀ v ∈ r1, okV X1.2.1 v ∧ gv v) : FI G s H1 locs1 ph nL M1 (bkX al mc ms X X1) ls L (r1 ++ r) := by
  refine ⟨bk_HR fi.1 hh, fun q => by rw [bk_na]; exact hset q, hS, fi.2.2.2.1, fun i => by rw [bk_na]; exact ok_le hn (fi.2.2.2.2.1 i), fun v hv => ?_, fi.2.2.2.2.2.2⟩
  rw [bk_na]
  rcases List.mem_append.mp hv with h | h
  · exact hr1 v h
  · exact ⟨ok_le hn (fi.2.2.2.2.2.1 v h).1, (fi.2.2.2.2.2.1 v h).2⟩
theorem call9 {mc ms m9 : Nat} {r : List PV} {st0 : List Value} {q : PRs} {a : Array Value} {X9 : PX} (hr : va_Run p l e R s m args below meth c H locs (cX mi X) (sX mi X) mc ms (F0 m pc ls st0) (r.map (tvG G)) (Qc9 G ph q a) (gA G)) (fi : FI G s H locs ph nL M X ls L r)
    (ih : IHK p l e R s m args below meth c Q G mi nL ph K r0) (hk : kRet ph (alM mi) mi mc ms (pc + 3) K L r X q = some r0) (hP : PXI m9 X9 q) (hX9 : X9.2.1 = X.2.1) (hz : alM mi = false → mc = 0 ∧ ms = 0) : W p l e R s m args below meth c H locs (cX mi X) (sX mi X) Q (F0 m pc ls st0) := by
  intro T hT XX
  obtain ⟨v, st₀, t, T', L', h0, X', hL, e1, e2, ⟨⟨⟨o, ho, hv⟩, hh, hset⟩, hF⟩, stp⟩ := hr T hT XX
  obtain ⟨o', M', X1⟩ := q
  have ho : o' = .inl o := ho
  subst ho
  have hv : v = o.map (tvG G) := by injection hv
  subst hv
  have hk2 : K (pc + 3) L (o.toList ++ r) M' (bkX (alM mi) mc ms X X1) = some r0 := by cases o <;> exact hk
  obtain ⟨-, -, hS⟩ := vx_keep (A1 := gA G) h0 e1 fi.2.2.1 (fun q _ h => h) (fun q h => h) hL hF
  have hh : HR G M' X1 T'.heap := by rw [e1]; exact hh
  have hn : X.2.1 ≤ X1.2.1 := by rw [← hX9]; exact hP.1
  have f9 : FI G s T'.heap (locs ++ L') ph nL M' (bkX (alM mi) mc ms X X1) ls L (o.toList ++ r) := fi_back fi hh hset hS hn fun w hw => by
    have hw2 : o = some w := by simpa using hw
    subst hw2
    rcases hP.2.2.2.1 w rfl with ⟨x, rfl⟩ | ⟨x, rfl⟩
    · exact ⟨trivial, trivial⟩
    · exact ⟨trivial, trivial⟩
  have h9 := ih _ _ _ _ _ _ _ _ hk2 f9
  have c1 : cX mi (bkX (alM mi) mc ms X X1) = cX mi X + mc := by
    unfold cX bkX
    cases hal : alM mi with
    | true => rfl
    | false => rw [(hz hal).1]; rfl
  have c2 : sX mi (bkX (alM mi) mc ms X X1) = sX mi X + ms := by
    unfold sX bkX
    cases hal : alM mi with
    | true => rfl
    | false => rw [(hz hal).2]; rfl
  rw [c1, c2] at h9
  have e3 : (o.toList ++ r).map (tvG G) = (o.map (tvG G)).toList ++ r.map (tvG G) := by cases o <;> rfl
  rw [e3] at h9
  obtain ⟨t2, a1, b1⟩ := h9 T' rfl X'
  exact ⟨t2, stp t2 a1, b1⟩
theorem cat_wg {na : Nat} (hU : gU G = .null ∨ ∃ q, gU G = .ref q) : ∀ r : List PV, (∀ v ∈ r, okV na v ∧ gv v) → ((r.map (tvG G)).map fun v => v.category).sum = wg r
  | [], _ => rfl
  | v :: r, h => by
    have ih := cat_wg hU r fun w hw => h w (List.mem_cons_of_mem _ hw)
    have hv := h v List.mem_cons_self
    rw [List.map_cons, List.map_cons, List.sum_cons, ih]
    rcases v with x | x | ⟨k, a⟩
    · rw [cat_i]; show 1 + _ = _ + 1; omega
    · show 2 + _ = _ + 2; omega
    · rw [cat_r hU hv.2 hv.1]; show 1 + _ = _ + 1; omega
theorem popn_inv : ∀ (n : Nat) (acc st : List PV) (q : List PV × List PV), popn n acc st = some q → ∃ as : List PV, as.length = n ∧ st = as.reverse ++ q.2 ∧ q.1 = as ++ acc
  | 0, acc, st, q, h => by
    have h : some (acc, st) = some q := h
    cases h
    exact ⟨[], rfl, rfl, rfl⟩
  | n + 1, acc, [], q, h => by cases h
  | n + 1, acc, v :: st, q, h => by
    obtain ⟨as, h1, h2, h3⟩ := popn_inv n (v :: acc) st q h
    exact ⟨as ++ [v], by simp [h1], by rw [h2]; simp, by rw [h3]; simp⟩
theorem gw_good {w : Cond} (h : w ∈ gwT) : w ∈ gwT ∧ ((w.onTables && w.keeps) = true ∨ ∃ ty, w = .arrayClass ty) := ⟨h, good_of_word (List.mem_filter.mp h).2⟩
def isCd (m : Nat) : Bool := match cdN m with
  | .code _ _ _ _ => true
  | _ => false
theorem cd_ok {m : Nat} (h : isCd m = true) : cdN m = .code (yN m) (byN m) (mlN m) (rtN m) := by
  unfold isCd at h
  unfold yN byN mlN rtN
  cases hc : cdN m <;> rw [hc] at h <;> first | rfl | cases h
theorem cd_gw {m : Nat} (h : isCd m = true) : Cond.code (yN m) (byN m) (mlN m) (rtN m) ∈ gwT := by
  have h1 := cd_ok h
  unfold cdN at h1
  cases hn : lw_tbl[cwT.getD m 0]? with
  | none => rw [hn] at h1; cases h1
  | some w =>
    rw [hn] at h1
    have h1 : w = Cond.code (yN m) (byN m) (mlN m) (rtN m) := h1
    rw [← h1]
    exact gw_of hn (by rw [h1]; rfl)
/-- which calls may be: the callee by number, its room, its words -/
def rkOK (mi m' : Nat) : Bool := bif Nat.beq (rgM m') 0 then Nat.blt (hgM m' + (bif Nat.beq (rgM mi) 0 then 0 else 40)) (hgM mi) else bif Nat.beq (rgM m') (rgM mi) then Nat.beq (hgM m') (hgM mi) && Nat.blt 40 (hgM mi) else Nat.blt (hgM m' + (bif Nat.beq (rgM mi) 0 then 0 else 40)) (hgM mi)
def mdOK (w : Nat × Nat × Nat × Nat × Nat × Nat × Nat) (zi : Nat) : Bool := Nat.beq w.2.2.2.1 (mlN w.2.1) && Nat.beq w.2.2.2.2.1 (bif alM w.2.1 then 1 else 0) && (Nat.beq w.2.2.2.2.2.1 (mcM w.2.1) && Nat.beq w.2.2.2.2.2.2 (msM w.2.1) && ((alM w.2.1) || (Nat.beq (mcM w.2.1) 0 && Nat.beq (msM w.2.1) 0))) &&
  isCd w.2.1 && hasW zi (.initialized (yN w.2.1).cls) &&
  (decide ((yN w.2.1).cls ≠ "java/lang/invoke/MethodHandle") && decide ((yN w.2.1).cls ≠ "java/lang/invoke/VarHandle")) && decide ((parseMethodDescriptor (yN w.2.1).desc).map (fun d => d.parameters.length) = some w.2.2.1) && Nat.ble (mlN w.2.1) 41 && (!(alM w.2.1) || Nat.beq (rgM w.2.1) 0)
def ckC (mi i : Nat) (w : Nat × Nat × Nat × Nat × Nat × Nat × Nat) : Bool := match lkp (mwP (ownM mi)) i with
  | none => false
  | some z => bif Nat.beq w.1 2 then Nat.beq w.2.2.1 0 && hasW z.1 (.methodLink (cn (ownM mi)) i Lib.objectInit) && hasW z.2.1 (.instanceMethod Lib.objectInit) && hasW z.2.2.1 (.code Lib.objectInit ⟨#[0xb1]⟩ 1 none)
    else bif Nat.beq w.1 3 then hasW z.1 (.methodLink (cn (ownM mi)) i arraycopyName) && hasW z.2.1 (.static arraycopyName) && hasW z.2.2.1 (.native arraycopyName) && hasW z.2.2.2 (.initialized "java/lang/System")
    else bif Nat.beq w.1 7 then hasW z.1 (.methodLink (cn (ownM mi)) i Lib.Math.min.name) && hasW z.2.1 (.static Lib.Math.min.name) && hasW z.2.2.1 (.code Lib.Math.min.name Lib.Math.min.code 2 (some .int)) && hasW z.2.2.2 (.initialized "java/lang/Math")
    else bif Nat.beq w.1 8 then hasW z.1 (.methodLink (cn (ownM mi)) i Lib.Math.max.name) && hasW z.2.1 (.static Lib.Math.max.name) && hasW z.2.2.1 (.code Lib.Math.max.name Lib.Math.max.code 2 (some .int)) && hasW z.2.2.2 (.initialized "java/lang/Math")
    else mdOK w z.2.2.2 && rkOK mi w.2.1 && (bif Nat.beq w.1 0 then hasW z.1 (.methodLink (cn (ownM mi)) i (yN w.2.1)) && hasW z.2.1 (.instanceMethod (yN w.2.1)) && hasW z.2.2.1 (.selects (yN w.2.1).cls (yN w.2.1) (yN w.2.1)) && ((Nat.beq (ownM w.2.1) 16 && decide ((yN w.2.1).cls = "java/lang/String")) || (Nat.ble 1 (ownM w.2.1) && Nat.ble (ownM w.2.1) 13 && decide ((clT (ownM w.2.1)).1 = (yN w.2.1).cls)))
      else bif Nat.beq w.1 1 then hasW z.1 (.methodLink (cn (ownM mi)) i (yN w.2.1)) && hasW z.2.1 (.static (yN w.2.1))
      else decide ((yN w.2.1).name = "<init>") && decide (rtN w.2.1 = none) && hasW z.2.1 (.instanceMethod (yN w.2.1)) && (bif Nat.beq w.1 5 then hasW z.1 (.methodLink (cn (ownM mi)) i (yN w.2.1))
        else match lw_tbl[z.1]? with
          | some (.methodLinkNest a b x _) => decide (a = cn (ownM mi)) && Nat.beq b i && decide (x = yN w.2.1)
          | _ => false))
theorem md_inv {w : Nat × Nat × Nat × Nat × Nat × Nat × Nat} {zi : Nat} (h : mdOK w zi = true) : w.2.2.2.1 = mlN w.2.1 ∧ w.2.2.2.2.1 = (bif alM w.2.1 then 1 else 0) ∧ w.2.2.2.2.2.1 = mcM w.2.1 ∧ w.2.2.2.2.2.2 = msM w.2.1 ∧ (alM w.2.1 = false → mcM w.2.1 = 0 ∧ msM w.2.1 = 0) ∧ cdN w.2.1 = .code (yN w.2.1) (byN w.2.1) (mlN w.2.1) (rtN w.2.1) ∧
    Cond.code (yN w.2.1) (byN w.2.1) (mlN w.2.1) (rtN w.2.1) ∈ gwT ∧ Cond.initialized (yN w.2.1).cls ∈ gwT ∧ ((yN w.2.1).cls ≠ "java/lang/invoke/MethodHandle" ∧ (yN w.2.1).cls ≠ "java/lang/invoke/VarHandle") ∧ (parseMethodDescriptor (yN w.2.1).desc).map (fun d => d.parameters.length) = some w.2.2.1 ∧ mlN w.2.1 ≤ 41 ∧ (alM w.2.1 = true → rgM w.2.1 = 0) := by
  unfold mdOK at h
  simp only [Bool.and_eq_true, Bool.or_eq_true, decide_eq_true_eq] at h
  obtain ⟨⟨⟨⟨⟨⟨⟨⟨h1, h2⟩, ⟨h3, h4⟩, h5⟩, h6⟩, h8⟩, h9⟩, h10⟩, h11⟩, h12⟩ := h
  refine ⟨nbeq_t h1, nbeq_t h2, nbeq_t h3, nbeq_t h4, fun q => ?_, cd_ok h6, cd_gw h6, hasW_in h8, h9, h10, Nat.le_of_ble_eq_true h11, fun q => ?_⟩
  · rcases h5 with h5 | h5
    · rw [q] at h5; cases h5
    · exact ⟨nbeq_t h5.1, nbeq_t h5.2⟩
  · rcases h12 with h12 | h12
    · rw [q] at h12; cases h12
    · exact nbeq_t h12
theorem rk_inv {m' : Nat} (h : rkOK mi m' = true) (hlv : lv ≤ 40 ∧ (rgM mi = 0 → lv = 0)) : (rgM m' = 0 ∨ rgM m' ≠ rgM mi → rankM m' 0 + 1 ≤ rankM mi lv) ∧ (rgM m' ≠ 0 → rgM m' = rgM mi → lv < 40 → rankM m' (lv + 1) + 1 ≤ rankM mi lv) := by
  obtain ⟨hl, hl0⟩ := hlv
  have go : Nat.blt (hgM m' + (bif Nat.beq (rgM mi) 0 then 0 else 40)) (hgM mi) = true → rankM m' 0 + 1 ≤ rankM mi lv := by
    intro q
    have q := lt_of_blt q
    unfold rankM
    cases hb : Nat.beq (rgM mi) 0 with
    | true =>
      have e0 := hl0 (nbeq_t hb)
      rw [hb] at q
      subst e0
      exact q
    | false =>
      rw [hb] at q
      have q : hgM m' + 40 < hgM mi := q
      omega
  unfold rkOK at h
  cases h0 : Nat.beq (rgM m') 0 with
  | true =>
    rw [h0] at h
    exact ⟨fun _ => go h, fun q => absurd (nbeq_t h0) q⟩
  | false =>
    rw [h0] at h
    cases h1 : Nat.beq (rgM m') (rgM mi) with
    | true =>
      rw [h1] at h
      have h : (Nat.beq (hgM m') (hgM mi) && Nat.blt 40 (hgM mi)) = true := h
      simp only [Bool.and_eq_true] at h
      have e1 := nbeq_t h.1
      have e2 := lt_of_blt h.2
      refine ⟨fun q => ?_, fun _ _ q => by unfold rankM; omega⟩
      rcases q with q | q
      · exact absurd q (nbeq_n h0)
      · exact absurd (nbeq_t h1) q
    | false =>
      rw [h1] at h
      exact ⟨fun _ => go h, fun _ q => absurd q (nbeq_n h1)⟩
/-- what a call comes to -/
theorem kCall_inv {w : Nat × Nat × Nat × Nat × Nat × Nat × Nat} {zi nx : Nat} {as r : List PV} (hw : mdOK w zi = true) (hr : rkOK mi w.2.1 = true) (hlv : lv ≤ 40 ∧ (rgM mi = 0 → lv = 0)) (h : kCall ph cl mi lv K nx w as L r M X = some r0) : wg r ≤ 8 ∧ plen (expd as) ≤ mlN w.2.1 ∧ ∃ (lv' : Nat) (X9 : PX) (q : PRs),
    cl w.2.1 lv' (padl (mlN w.2.1) (expd as)) M X9 = some q ∧ kRet ph (alM mi) mi (mcM w.2.1) (msM w.2.1) nx K L r X q = some r0 ∧ X9.2.1 = X.2.1 ∧ (∀ G H, HR G M X H → HR G M X9 H) ∧ (alM w.2.1 = true → X9.2.2.2.1 = 0 ∧ X9.2.2.2.2.1 = 0) ∧ rankM w.2.1 lv' + 1 ≤ rankM mi lv ∧ lv' ≤ 40 ∧ (rgM w.2.1 = 0 → lv' = 0) ∧ (alM mi = false → mcM w.2.1 = 0 ∧ msM w.2.1 = 0) ∧ (alM mi = true → alM w.2.1 = true → X.2.2.2.1 + mcM w.2.1 ≤ mcM mi ∧ X.2.2.2.2.1 + msM w.2.1 ≤ msM mi) := by
  obtain ⟨e1, e2, e3, e4, e5, -, -, -, -, -, -, e12⟩ := md_inv hw
  obtain ⟨k1, k2⟩ := rk_inv hr hlv
  unfold kCall at h
  obtain ⟨hc, h1⟩ := bif_inv h
  simp only [Bool.and_eq_true] at hc
  refine ⟨Nat.le_of_ble_eq_true hc.1, by rw [← e1]; exact Nat.le_of_ble_eq_true hc.2, ?_⟩
  rw [e1, e2, e3, e4] at h1
  cases hal : alM w.2.1 with
  | false =>
    rw [hal] at h1
    obtain ⟨z1, z2⟩ := e5 hal
    rw [z1, z2]
    have h2 : (bif Nat.beq (rgM w.2.1) 0 then (cl w.2.1 0 (padl (mlN w.2.1) (expd as)) M X).bind (kRet ph (alM mi) mi 0 0 nx K L r X) else bif Nat.beq (rgM w.2.1) (rgM mi) then (bif Nat.blt lv 40 then (cl w.2.1 (lv + 1) (padl (mlN w.2.1) (expd as)) M X).bind (kRet ph (alM mi) mi 0 0 nx K L r X) else none) else (cl w.2.1 0 (padl (mlN w.2.1) (expd as)) M X).bind (kRet ph (alM mi) mi 0 0 nx K L r X)) = some r0 := h1
    cases h0 : Nat.beq (rgM w.2.1) 0 with
    | true =>
      rw [h0] at h2
      obtain ⟨q, g1, g2⟩ := bind_inv h2
      exact ⟨0, X, q, g1, g2, rfl, fun _ _ z => z, fun z => (by cases z), k1 (Or.inl (nbeq_t h0)), Nat.zero_le _, fun _ => rfl, fun _ => ⟨rfl, rfl⟩, fun _ z => (by cases z)⟩
    | false =>
      rw [h0] at h2
      cases h3 : Nat.beq (rgM w.2.1) (rgM mi) with
      | true =>
        rw [h3] at h2
        obtain ⟨hl, h4⟩ := bif_inv h2
        obtain ⟨q, g1, g2⟩ := bind_inv h4
        have hl := lt_of_blt hl
        exact ⟨lv + 1, X, q, g1, g2, rfl, fun _ _ z => z, fun z => (by cases z), k2 (nbeq_n h0) (nbeq_t h3) hl, hl, fun z => absurd z (nbeq_n h0), fun _ => ⟨rfl, rfl⟩, fun _ z => (by cases z)⟩
      | false =>
        rw [h3] at h2
        obtain ⟨q, g1, g2⟩ := bind_inv h2
        exact ⟨0, X, q, g1, g2, rfl, fun _ _ z => z, fun z => (by cases z), k1 (Or.inr (nbeq_n h3)), Nat.zero_le _, fun _ => rfl, fun _ => ⟨rfl, rfl⟩, fun _ z => (by cases z)⟩
  | true =>
    rw [hal] at h1
    obtain ⟨ha, h2⟩ := bif_inv (show (bif alM mi then (if X.2.2.2.1 + mcM w.2.1 ≤ mcM mi ∧ X.2.2.2.2.1 + msM w.2.1 ≤ msM mi then (cl w.2.1 0 (padl (mlN w.2.1) (expd as)) M (enX 1 X)).bind (kRet ph (alM mi) mi (mcM w.2.1) (msM w.2.1) nx K L r X) else none) else none) = some r0 from h1)
    obtain ⟨hb, h3⟩ := ite_inv h2
    obtain ⟨q, g1, g2⟩ := bind_inv h3
    exact ⟨0, enX 1 X, q, g1, g2, rfl, fun _ _ z => z, fun _ => ⟨rfl, rfl⟩, k1 (Or.inl (e12 hal)), Nat.zero_le _, fun _ => rfl, fun z => (by rw [ha] at z; cases z), fun _ _ => hb⟩
theorem cb_of {w : Nat × Nat × Nat × Nat × Nat × Nat × Nat} {zi lv' index : Nat} (hw : mdOK w zi = true) (hrk : rankM w.2.1 lv' + 1 ≤ rankM mi lv) (hRf : rankM mi lv ≤ R.frames) (hRl : 60 * rankM mi lv ≤ R.locals) (hts : ∀ w ∈ gwT, w.before args s = true) (hl : Cond.methodLink (cn (ownM mi)) index (yN w.2.1) ∈ gwT) :
    CallB R s args (cn (ownM mi)) index (yN w.2.1) (byN w.2.1) (mlN w.2.1) (rtN w.2.1) (cdN w.2.1 :: gwT) (rmM w.2.1 lv') (mcM w.2.1) (msM w.2.1) w.2.2.1 := by
  obtain ⟨-, -, -, -, -, e6, e7, e8, e9, e10, e11, -⟩ := md_inv hw
  refine ⟨rfl, rfl, Nat.le_trans hrk hRf, by show 8 + (mlN w.2.1 + 11) + 60 * rankM w.2.1 lv' ≤ R.locals; omega, pay_in (big := gwT) hts fun x hx => ?_, by rw [e6]; exact List.mem_cons_self, hts _ e7, hts _ e8, e9, fun sig h => ?_, hts _ hl⟩
  · rcases List.mem_cons.mp hx with rfl | hx
    · rw [e6]; exact gw_good e7
    · exact gw_good hx
  · rw [h] at e10
    exact (Option.some.inj e10).symm
end CAL
