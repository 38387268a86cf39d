/-! the instructions of the heap; what the tables give -/
section FRB
variable {p : Program} {l : Launch} {e : Env} {R : Room} {s : State} {m : MethodId} {args : Array Value} {below : List Frame} {meth : Method} {c : Code} {Q : State → Prop} {cc : ByteArray} {G : EG} {mi lv nL : Nat} {ph : Bool} {cl : Nat → Nat → List PV → Mem → PX → Option PRs} {K : KT} {r0 : PRs} {pc tg : Nat} {cv : Int32} {L st : List PV} {ls : Array Slot} {M : Mem} {X : PX} {H : Heap} {locs : List Loc}
def cnL : List String := ["MergeBeltsLaw", RX11, RX10, RX1, RX5, RX4, RX9, RX0, RX8, RX7, RX6, RX3, RX2, RX12, "java/util/Arrays", "java/lang/Math", "java/lang/String", "java/lang/StringLatin1", "jdk/internal/util/Preconditions"]
def cn (o : Nat) : String := cnL.getD o ""
def gwT : List Cond := lw_tbl.filter goodWord
theorem gw_of {i : Nat} {w : Cond} (h : lw_tbl[i]? = some w) (hg : goodWord w = true) : w ∈ gwT := List.mem_filter.mpr ⟨List.mem_of_getElem? h, hg⟩
def clT (t : Nat) : vw_C := vwCl.getD (kci t) ("", fun _ => ("", "", "", false), 0)
/-- what holds of a class of ours -/
def CTok (t : Nat) : Prop := vwCl[kci t]? = some (clT t) ∧ (clT t).2.2 = nfT t ∧ (∀ w ∈ u_ws (clT t).1 (clT t).2.1 (clT t).2.2, w ∈ gwT) ∧
  (∀ a, a < (clT t).2.2 → ∀ b, b < (clT t).2.2 → a ≠ b → ((clT t).2.1 a).2.1 ≠ ((clT t).2.1 b).2.1) ∧
  ∃ ty : Nat → FieldType, (∀ k, k < (clT t).2.2 → parseFieldDescriptor ((clT t).2.1 k).2.2.1 = some (ty k)) ∧
    ∀ k, k < (clT t).2.2 → ((clT t).2.1 k).1 = (clT t).1 ∧ ((fkA t k).1 = 0 ∧ ty k = .int ∧ ((clT t).2.1 k).2.2.2 = false ∨ (fkA t k).1 = 1 ∧ ty k = .boolean ∧ ((clT t).2.1 k).2.2.2 = false ∨
      (fkA t k).1 = 2 ∧ defaultValue (ty k) = .null ∧ ((clT t).2.1 k).2.2.2 = true ∧ ∀ a, fits (ty k) (.ref a) = true ∧ narrow (ty k) (.ref a) = .ref a)
/-- what holds of a field's row -/
def FEok (o : Nat) (q : Nat × (Nat × Nat × Nat × Nat × Nat)) : Prop :=
  (1 ≤ q.2.1 ∧ q.2.1 ≤ 13 ∧ CTok q.2.1 ∧ q.2.2.1 < nfT q.2.1 ∧ fkA q.2.1 q.2.2.1 = (q.2.2.2.1, q.2.2.2.2.1) ∧ q.2.2.2.1 ≤ 2 ∧
    Cond.fieldLink (cn o) q.1 (clT q.2.1).1 ((clT q.2.1).2.1 q.2.2.1).2.1 ((clT q.2.1).2.1 q.2.2.1).2.2.1 ∈ gwT ∧
    (q.2.2.2.1 = 2 → q.2.2.2.2.2 ≠ 0 ∧ q.2.2.2.2.2 ≤ 16 ∧ ∀ a, tyA a = q.2.1 → tyA (a + q.2.2.2.2.1) = q.2.2.2.2.2)) ∨
  (q.2 = (18, 0, 4, 0, 19) ∧ Cond.fieldLink (cn o) q.1 "java/lang/String" "value" "[B" ∈ gwT) ∨ (q.2 = (18, 1, 3, 0, 0) ∧ Cond.fieldLink (cn o) q.1 "java/lang/String" "coder" "B" ∈ gwT)
theorem ceM_X {v : Int64} {a : Nat} (h : tyA a ≠ 15) : ceM G M (v, X.2) a = ceM G M X a := by
  unfold ceM
  rw [nbeq_f h]
  rfl
def slnL : List Nat := strT.map List.length
def sbyt : List (List Int32) := strT.map fun l => l.map Int32.ofNat
abbrev sioD : String := "Ljava/util/function/BiFunction;"
def tysG (G : EG) : List (ClassId × FieldType) := [(gI G, .int), (gL G, .long), (gS G, .object "MergeBelts$State")]
/-- words that are carried along by name -/
def spW (w : Cond) : Bool := match w with
  | .methodLinkNest .. | .castable .. | .declares _ => true
  | _ => false
/-- what holds of the machine at a method's start, of the class tables and of cells that were there before ours -/
def SI (G : EG) (U : State) : Prop := gb G ≤ U.heap.size ∧ va_K (gD G) vwCl (tysG G) U ∧ vk_S 22 slnL sbyt (gK G) (gV G) (gA G) U U.heap ∧
  (∀ o i k, o < 19 → lkp (cstP o) i = some (pR 18 k) → k < 22 ∧ ∃ tx, vk_R (cn o) i tx (gK G k) U) ∧ va_Z "java/lang/String" "COMPACT_STRINGS" "Z" (.int 1) (gA G) U U.heap ∧
  va_Z "jdk/internal/util/Preconditions" "SIOOBE_FORMATTER" sioD (gU G) (gA G) U U.heap ∧ va_AO "MergeBelts$State" U ∧ (∀ w ∈ lw_tbl, spW w = true → va_Nw w U) ∧
  vx_Zq Bundle.tN "UNASSIGNED_STACK" Bundle.steD (gA G) U U.heap ∧ vx_Zq Bundle.tN "SUPPRESSED_SENTINEL" Bundle.listD (gA G) U U.heap ∧ gC G < gb G ∧ va_X (gC G) (gN G) (gX G) U U.heap
theorem rg_at {n k : Nat} (f : Nat → Value) (h : k < n) : ((List.range n).map f)[k]? = some (f k) := by rw [List.getElem?_map, List.getElem?_range h]; rfl
theorem ws_at {a t : Nat} (ht : tyA a = t) (h2 : t ≤ 13) (ha : a < X.2.1) : (wsM G M X)[a]? = some (gb G + a, .inr (kci t, (List.range (nfT t)).map (fvM G M a t))) := by rw [wsM_at ha, ceM_o ht h2]
theorem ws_ai {a : Nat} (ht : tyA a = 14) (ha : a < X.2.1) : (wsM G M X)[a]? = some (gb G + a, .inl (gI G, ln a, .inl (fun j => M a j))) := by rw [wsM_at ha, ceM_i ht]
theorem ws_al {a : Nat} (ht : tyA a = 15) (ha : a < X.2.1) : (wsM G M X)[a]? = some (gb G + a, .inl (gL G, ln a, .inr (.inl (fun _ => X.1)))) := by rw [wsM_at ha, ceM_l ht]
theorem ws_as {a : Nat} (ht : tyA a = 16) (ha : a < X.2.1) : (wsM G M X)[a]? = some (gb G + a, .inl (gS G, 10, .inr (.inr (.inr (.inr (cvM G M a)))))) := by rw [wsM_at ha, ceM_s ht]
theorem fvM_int {a t k : Nat} (h : (fkA t k).1 ≠ 2) : fvM G M a t k = .int (M a k) := by unfold fvM; rw [nbeq_f h]; rfl
theorem fvM_ref {a t k : Nat} (h : (fkA t k).1 = 2) (h1 : M a k = 1) : fvM G M a t k = .ref (gb G + (a + (fkA t k).2)) := by unfold fvM; rw [h, if_pos h1]; rfl
theorem inB_in {i : Int32} {n : Nat} (h : inB i n = true) : vp_in i n := by
  unfold inB at h
  intro q
  rcases q with q | q <;> simp [q] at h

set_option maxHeartbeats 1000000 in
theorem fr_getfield {i : Nat} (hx : p.tables.exec = Jvm.exec) (hb : c.code = cc) (ih : IHK p l e R s m args below meth c Q G mi nL ph K r0) (fi : FI G s H locs ph nL M X ls L st) (h : stp ph cl mi lv K (pc, .getfield i, 3, tg, cv) L st M X = some r0) (hd : decode cc pc = .ok (.getfield i, 3)) (hown : s.vm.findClass (cn (ownM mi)) = some m.cls) (hts : ∀ w ∈ gwT, w.before args s = true) (hSI : SI G s) (hF : ∀ q ∈ fldP (ownM mi), FEok (ownM mi) q) : W p l e R s m args below meth c H locs (cX mi X) (sX mi X) Q (F0 m pc ls ((st).map (tvG G))) := by
  unfold stp at h
  dsimp only at h
  obtain ⟨t, a, q, rfl, h1⟩ := ur1_inv h
  obtain ⟨f, hf, h2⟩ := bind_inv h1
  obtain ⟨hc, h3⟩ := bif_inv h2
  clear h h1 h2
  have h := h3
  clear h3
  have hc := nbeq_t hc
  obtain ⟨h0, ho⟩ := fi_ok fi
  have hm := hF _ (lkp_mem hf)
  obtain ⟨f1, k, kd, off, dt⟩ := f
  have hc : f1 = t := hc
  subst hc
  rcases hm with ⟨c1, c2, hC, hk, hfk, hkd, hlink, hd2⟩ | ⟨e, hlink⟩ | ⟨e, hlink⟩
  · dsimp only at c1 c2 hC hk hfk hkd hlink hd2 h
    obtain ⟨C1, C2, C3, C4, ty, C5, C6⟩ := hC
    have hr := ho.1 (by omega)
    have hP := ws_at (M := M) (G := G) hr.2 c2 hr.1
    have hk2 : k < (clT f1).2.2 := by rw [C2]; exact hk
    show W p l e R s m args below meth c H locs (cX mi X) (sX mi X) Q (F0 m pc ls (tvG G (pR f1 a) :: q.map (tvG G)))
    rw [tv_ref (by omega)]
    have go : ∀ v : Value, fvM G M a f1 k = v → W p l e R s m args below meth c H locs (cX mi X) (sX mi X) Q (F0 m (pc + 3) ls (v :: q.map (tvG G))) → W p l e R s m args below meth c H locs (cX mi X) (sX mi X) Q (F0 m pc ls (.ref (gb G + a) :: q.map (tvG G))) := by
      intro v hv kk
      exact va_get (C := (clT f1).1) (T := (clT f1).2.1) (N := (clT f1).2.2) (ci := kci f1) (ref := (clT f1).1) hx hb hts C3 hown hSI.2.1 fi.1.1 a hP C1 k hk2 (hts _ hlink) (fun x hx => by rw [(C6 k hk2).1] at hx; exact hx) (by rw [rg_at _ (by rw [← C2]; exact hk2), hv]) hd kk
    cases hb2 : Nat.blt kd 2 with
    | true =>
      rw [hb2] at h
      have hk3 : (fkA f1 k).1 ≠ 2 := by rw [hfk]; have := lt_of_blt hb2; dsimp only; omega
      exact go _ (fvM_int hk3) (ih _ _ _ _ _ _ _ _ h (fi_I (fi_tl fi)))
    | false =>
      rw [hb2] at h
      have hk3 : kd = 2 := by
        rcases (by omega : kd < 2 ∨ kd = 2) with q2 | q2
        · have : Nat.blt kd 2 = true := Nat.ble_eq_true_of_le q2
          rw [this] at hb2; cases hb2
        · exact q2
      subst hk3
      obtain ⟨d1, d2, d3⟩ := hd2 rfl
      have hrf : isRf a k = true := by unfold isRf; rw [hr.2, hfk, nbeq_f (by omega : f1 ≠ 16)]; rfl
      have hro : rof a k = off := by unfold rof; rw [hr.2, hfk, nbeq_f (by omega : f1 ≠ 16)]; rfl
      have fin : M a k = 1 → K (pc + 3) L (pR dt (a + off) :: q) M X = some r0 → W p l e R s m args below meth c H locs (cX mi X) (sX mi X) Q (F0 m pc ls (.ref (gb G + a) :: q.map (tvG G))) := by
        intro h1 h2
        have hna := fi.1.2.2.2.2.1 a k hr.1 hrf h1
        rw [hro] at hna
        have h3 := ih _ _ _ _ _ _ _ _ h2 (fi_R (fi_tl fi) d1 ⟨fun _ => ⟨hna, d3 a hr.2⟩, fun q => by omega, fun q => by omega, by omega⟩)
        have h4 : W p l e R s m args below meth c H locs (cX mi X) (sX mi X) Q (F0 m (pc + 3) ls (tvG G (pR dt (a + off)) :: q.map (tvG G))) := h3
        rw [tv_ref d2] at h4
        exact go _ (by rw [fvM_ref (by rw [hfk]) h1, hfk]) h4
      cases ph with
      | true => exact fin (set_iff.mp (fi.2.1 rfl) a k hr.1 hrf) h
      | false =>
        obtain ⟨h1, h⟩ := ite_inv h
        exact fin h1 h
  · cases e
    obtain ⟨-, -, E1, E2, -, -, -⟩ : True ∧ True ∧ va_OF "java/lang/String" "value" "[B" (.ref (gV G a)) (gK G a) (gA G) s s.heap ∧ True ∧ True ∧ True ∧ True := ⟨trivial, trivial, (hSI.2.2.1.1 a (ho.2.2.1 (Or.inl rfl))).2.2.1, trivial, trivial, trivial, trivial⟩
    have h3 := ih _ _ _ _ _ _ _ _ h (fi_R (fi_tl fi) (by decide) ⟨fun q => absurd q (by decide), fun q => absurd q (by decide), fun _ => ho.2.2.1 (Or.inl rfl), by decide⟩)
    exact vk_getf hx hb E1 fi.2.2.1 hown (hts _ hlink) (fun _ h => h) hd h3
  · cases e
    have E1 : va_OF "java/lang/String" "coder" "B" (.int 0) (gK G a) (gA G) s s.heap := (hSI.2.2.1.1 a (ho.2.2.1 (Or.inl rfl))).2.1
    exact vk_getf hx hb E1 fi.2.2.1 hown (hts _ hlink) (fun _ h => h) hd (ih _ _ _ _ _ _ _ _ h (fi_I (fi_tl fi)))
theorem fi_up {H1 : Heap} {a k : Nat} {v : Int32} (fi : FI G s H locs ph nL M X ls L st) (ht : tyA a ≠ 0) (hr : isRf a k = false ∨ (ph = false ∧ (isRf a k = true → a + rof a k < X.2.1))) (hP : va_P (gD G) vwCl (wsM G (upM M a k v) X) H1) (hz : H1.size = H.size) (oq : ∀ q : Nat, q ≠ gb G + a → H1[q]? = H[q]?) {j : Nat} : FI G s H1 (locs ++ [⟨gb G + a, j⟩]) ph nL (upM M a k v) X ls L st := by
  refine ⟨HR_up fi.1 ht ?_ hP hz, fun q => ?_, fi.2.2.1.put hz oq (Nat.le_add_right _ _), fi.2.2.2⟩
  · rcases hr with hr | hr
    · intro q; rw [hr] at q; cases q
    · exact hr.2
  · rcases hr with hr | hr
    · exact set_up (fi.2.1 q) hr
    · rw [hr.1] at q; cases q
theorem wsM_put {a k t : Nat} {v : Int32} {w : Value} (ht : tyA a = t) (h2 : t ≤ 13) (hv : fvM G (upM M a k v) a t k = w) : (wsM G M X).set a (gb G + a, .inr (kci t, ((List.range (nfT t)).map (fvM G M a t)).set k w)) = wsM G (upM M a k v) X := by
  refine wsM_set ?_ fun i hi => ceM_ne hi
  rw [ceM_o ht h2]
  congr 2
  refine (map_set _ _ _ _ _ hv fun j hj => ?_).symm
  unfold fvM
  rw [upM_nk hj]
theorem put_i {a k t i nF : Nat} {v : Int32} {ref nm ds : String} {ty : FieldType} (hx : p.tables.exec = Jvm.exec) (hb : c.code = cc) (fi : FI G s H locs ph nL M X ls L st) (hts : ∀ w ∈ gwT, w.before args s = true) (hown : s.vm.findClass (cn (ownM mi)) = some m.cls) (hSI : SI G s)
    (ht : tyA a = t) (h2 : t ≤ 13) (h1 : 1 ≤ t) (ha : a < X.2.1) (hC : CTok t) (hk : k < nfT t) (hlink : Cond.fieldLink (cn (ownM mi)) i (clT t).1 ((clT t).2.1 k).2.1 ((clT t).2.1 k).2.2.1 ∈ gwT) (hfk : (fkA t k).1 ≠ 2) (hd : decode cc pc = .ok (.putfield i, 3))
    (hpd : parseFieldDescriptor ((clT t).2.1 k).2.2.1 = some ty) (hn : narrow ty (.int v) = .int v) (hfit : fits ty (.int v) = true) {rest : List Value} {cells slots : Nat}
    (kk : ∀ (H1 : Heap) (lc : List Loc), FI G s H1 lc ph nL (upM M a k v) X ls L st → W p l e R s m args below meth c H1 lc cells slots Q (F0 m (pc + 3) ls rest)) : W p l e R s m args below meth c H locs cells slots Q (F0 m pc ls (.int v :: .ref (gb G + a) :: rest)) := by
  obtain ⟨C1, C2, C3, C4, ty0, C5, C6⟩ := hC
  have hk2 : k < (clT t).2.2 := by rw [C2]; exact hk
  have hap := va_apart (own := cn (ownM mi)) hts C3 ty0 C5 C4 hSI.2.1 C1
  have he := ws_at (M := M) (G := G) (X := X) ht h2 ha
  obtain ⟨r, g1, cell, q1, q2, q3, q4⟩ := fi.1.1 a _ he
  have hr : r = ((clT t).1, (clT t).2.1, (clT t).2.2) := Option.some.inj (g1.symm.trans C1)
  subst hr
  obtain ⟨hS, hfc, kC, hkC, hkind⟩ := hSI.2.1.1 _ _ C1
  obtain ⟨cf, kf, fx, f, hi, hsl⟩ := hS k hk2
  have hlay := hts _ (C3 _ (u_in_lay hk2))
  unfold u_lay at hlay
  have hfin : ((clT t).2.1 k).2.2.2 = false := by
    rcases (C6 k hk2).2 with q | q | q
    · exact q.2.2
    · exact q.2.2
    · exact absurd q.1 hfk
  rw [if_neg (by rw [hfin]; decide)] at hlay
  have hst := (u_facts hfc hkC (u_lays hts C3 hk2) hi).1
  have h6 := u_store hfc hkC hkind hlay hi hpd hn hfit
  have hdc : ((clT t).2.1 k).1 = (clT t).1 := (C6 k hk2).1
  refine W.putK hx hb (f := f) ⟨hown, hts _ hlink, ⟨_, _, _, by rw [← hdc]; exact hi⟩, hst⟩ (by rw [q2]; exact h6) q1 q3 (by rw [hsl]; exact k2_hasslot (q4 k hk2)) rfl rfl hd fun H' e1 e2 e3 => ?_
  rw [hsl] at e1 ⊢
  have hP2 := fi.1.1.set wsM_D he (H1 := H') (e := .inr (kci t, ((List.range (nfT t)).map (fvM G M a t)).set k (.int v))) ⟨_, C1, t_OB.to (V := updV (vp_V ((List.range (nfT t)).map (fvM G M a t))) k (.int v)) ⟨_, e1, q2, q3, t_set q4 hap hk2 _⟩ (fun j _ => vp_updV_set (by simpa using hk) _ j)⟩ e3
  rw [wsM_put (v := v) ht h2 (by rw [fvM_int hfk, upM_self])] at hP2
  exact kk H' _ (fi_up fi (by omega) (Or.inl (nrf_o ht h2 rfl hfk)) hP2 e2 e3)
theorem put_r {a k t i d b : Nat} (hx : p.tables.exec = Jvm.exec) (hb : c.code = cc) (fi : FI G s H locs false nL M X ls L st) (hts : ∀ w ∈ gwT, w.before args s = true) (hown : s.vm.findClass (cn (ownM mi)) = some m.cls) (hSI : SI G s)
    (ht : tyA a = t) (h2 : t ≤ 13) (h1 : 1 ≤ t) (ha : a < X.2.1) (hC : CTok t) (hk : k < nfT t) (hlink : Cond.fieldLink (cn (ownM mi)) i (clT t).1 ((clT t).2.1 k).2.1 ((clT t).2.1 k).2.2.1 ∈ gwT) (hfk : (fkA t k).1 = 2) (hd : decode cc pc = .ok (.putfield i, 3))
    (hin : meth.name = "<init>") (hcn : (clT t).1 = cn (ownM mi)) (hb2 : b = a + (fkA t k).2) (hbl : b < X.2.1) {rest : List Value} {cells slots : Nat}
    (kk : ∀ (H1 : Heap) (lc : List Loc), FI G s H1 lc false nL (upM M a k 1) X ls L st → W p l e R s m args below meth c H1 lc cells slots Q (F0 m (pc + 3) ls rest)) : W p l e R s m args below meth c H locs cells slots Q (F0 m pc ls (.ref (gb G + b) :: .ref (gb G + a) :: rest)) := by
  obtain ⟨C1, C2, C3, C4, ty0, C5, C6⟩ := hC
  have hk2 : k < (clT t).2.2 := by rw [C2]; exact hk
  have hap := va_apart (own := cn (ownM mi)) hts C3 ty0 C5 C4 hSI.2.1 C1
  have he := ws_at (M := M) (G := G) (X := X) ht h2 ha
  obtain ⟨r, g1, cell, q1, q2, q3, q4⟩ := fi.1.1 a _ he
  have hr : r = ((clT t).1, (clT t).2.1, (clT t).2.2) := Option.some.inj (g1.symm.trans C1)
  subst hr
  obtain ⟨hS, hfc, kC, hkC, hkind⟩ := hSI.2.1.1 _ _ C1
  obtain ⟨cf, kf, fx, f, hi, hsl⟩ := hS k hk2
  have hlay := hts _ (C3 _ (u_in_lay hk2))
  unfold u_lay at hlay
  obtain ⟨hfin, hfn⟩ : ((clT t).2.1 k).2.2.2 = true ∧ ∀ a, fits (ty0 k) (.ref a) = true ∧ narrow (ty0 k) (.ref a) = .ref a := by
    rcases (C6 k hk2).2 with q | q | q
    · rw [hfk] at q; exact absurd q.1 (by decide)
    · rw [hfk] at q; exact absurd q.1 (by decide)
    · exact ⟨q.2.2.1, q.2.2.2⟩
  rw [if_pos hfin] at hlay
  have hst := (u_facts hfc hkC (u_lays hts C3 hk2) hi).1
  have hdc : ((clT t).2.1 k).1 = (clT t).1 := (C6 k hk2).1
  have hcf : m.cls = cf := by
    obtain ⟨_, _, c', _, _, _, -, -, hf', -, -, -, hown2, -⟩ := Cond.laysFinal_spec hlay
    have e1 : c' = cf := by have := hi.symm.trans hf'; simp at this; exact this.1.symm
    rw [hdc, hcn] at hown2
    rw [← e1]; exact Option.some.inj (hown.symm.trans hown2)
  have h6 := u_fits hfc hkC hkind (Or.inr hlay) hi (C5 k hk2) (hfn (gb G + b)).2 (hfn (gb G + b)).1
  refine W.putFinK hx hb hown (hts _ hlink) (by rw [← hdc]; exact hi) hst hcf hin (by rw [q2]; exact h6) q1 q3 (by rw [hsl]; exact k2_hasslot (q4 k hk2)) rfl rfl hd fun H' e1 e2 e3 => ?_
  rw [hsl] at e1 ⊢
  have hP2 := fi.1.1.set wsM_D he (H1 := H') (e := .inr (kci t, ((List.range (nfT t)).map (fvM G M a t)).set k (.ref (gb G + b)))) ⟨_, C1, t_OB.to (V := updV (vp_V ((List.range (nfT t)).map (fvM G M a t))) k (.ref (gb G + b))) ⟨_, e1, q2, q3, t_set q4 hap hk2 _⟩ (fun j _ => vp_updV_set (by simpa using hk) _ j)⟩ e3
  rw [wsM_put (v := 1) ht h2 (by rw [fvM_ref hfk upM_self, hb2])] at hP2
  have hro : rof a k = (fkA t k).2 := by unfold rof; rw [ht, nbeq_f (by omega : t ≠ 16)]; rfl
  exact kk H' _ (fi_up fi (by omega) (Or.inr ⟨rfl, fun _ => by rw [hro, ← hb2]; exact hbl⟩) hP2 e2 e3)
theorem rok_b {v : Int32} (h : rOK 1 v = true) : narrow .boolean (.int v) = .int v ∧ fits .boolean (.int v) = true := by
  have h : (decide (v = 0) || decide (v = 1)) = true := h
  simp only [Bool.or_eq_true, decide_eq_true_eq] at h
  rcases h with rfl | rfl <;> exact ⟨rfl, rfl⟩

set_option maxHeartbeats 1000000 in
theorem fr_putfield {i : Nat} (hx : p.tables.exec = Jvm.exec) (hb : c.code = cc) (ih : IHK p l e R s m args below meth c Q G mi nL ph K r0) (fi : FI G s H locs ph nL M X ls L st) (h : stp ph cl mi lv K (pc, .putfield i, 3, tg, cv) L st M X = some r0) (hd : decode cc pc = .ok (.putfield i, 3)) (hown : s.vm.findClass (cn (ownM mi)) = some m.cls) (hts : ∀ w ∈ gwT, w.before args s = true) (hSI : SI G s) (hF : ∀ q ∈ fldP (ownM mi), FEok (ownM mi) q) (hini : ∀ f, lkp (fldP (ownM mi)) i = some f → f.2.2.1 = 2 → meth.name = "<init>" ∧ (clT f.1).1 = cn (ownM mi)) : W p l e R s m args below meth c H locs (cX mi X) (sX mi X) Q (F0 m pc ls ((st).map (tvG G))) := by
  unfold stp at h
  dsimp only at h
  obtain ⟨f, hf, h1⟩ := bind_inv h
  have hm := hF _ (lkp_mem hf)
  have hi2 := hini _ hf
  clear hini h
  obtain ⟨f1, k, kd, off, dt⟩ := f
  dsimp only at h1 hi2
  rcases hm with ⟨c1, c2, hC, hk, hfk, hkd, hlink, hd2⟩ | ⟨e, hlink⟩ | ⟨e, hlink⟩
  · dsimp only at c1 c2 hC hk hfk hkd hlink hd2
    have hC2 := hC
    obtain ⟨C1, C2, C3, C4, ty, C5, C6⟩ := hC2
    have hk2 : k < (clT f1).2.2 := by rw [C2]; exact hk
    match kd, hkd, hfk, h1, hi2, hd2 with
    | 0, _, hfk, h1, _, _ =>
      obtain ⟨t, a, v, q, rfl, h2⟩ := uir_inv (show uir st _ = some r0 from h1)
      obtain ⟨hc, h3⟩ := bif_inv h2
      have hc : f1 = t := nbeq_t hc
      subst hc
      obtain ⟨h0, ho⟩ := fi_ok (fi_tl fi)
      have hr := ho.1 (by omega)
      have hty : ty k = .int := by
        rcases (C6 k hk2).2 with q | q | q
        · exact q.2.1
        · rw [hfk] at q; exact absurd q.1 (by simp)
        · rw [hfk] at q; exact absurd q.1 (by simp)
      show W p l e R s m args below meth c H locs (cX mi X) (sX mi X) Q (F0 m pc ls (.int v :: tvG G (pR f1 a) :: q.map (tvG G)))
      rw [tv_ref (by omega)]
      exact put_i (nF := 0) (ref := "") (nm := "") (ds := "") hx hb (fi_tl (fi_tl fi)) hts hown hSI hr.2 c2 c1 hr.1 hC hk hlink (by rw [hfk]; simp) hd (by rw [C5 k hk2, hty]) rfl rfl (fun H1 lc f2 => ih _ _ _ _ _ _ _ _ h3 f2)
    | 1, _, hfk, h1, _, _ =>
      obtain ⟨t, a, v, q, rfl, h2⟩ := uir_inv (show uir st _ = some r0 from h1)
      obtain ⟨hc, h4⟩ := bif_inv h2
      obtain ⟨hv, h3⟩ := ite_inv h4
      have hc : f1 = t := nbeq_t hc
      subst hc
      obtain ⟨h0, ho⟩ := fi_ok (fi_tl fi)
      have hr := ho.1 (by omega)
      have hty : ty k = .boolean := by
        rcases (C6 k hk2).2 with q | q | q
        · rw [hfk] at q; exact absurd q.1 (by simp)
        · exact q.2.1
        · rw [hfk] at q; exact absurd q.1 (by simp)
      show W p l e R s m args below meth c H locs (cX mi X) (sX mi X) Q (F0 m pc ls (.int v :: tvG G (pR f1 a) :: q.map (tvG G)))
      rw [tv_ref (by omega)]
      exact put_i (nF := 0) (ref := "") (nm := "") (ds := "") hx hb (fi_tl (fi_tl fi)) hts hown hSI hr.2 c2 c1 hr.1 hC hk hlink (by rw [hfk]; simp) hd (by rw [C5 k hk2, hty]) (rok_b hv).1 (rok_b hv).2 (fun H1 lc f2 => ih _ _ _ _ _ _ _ _ h3 f2)
    | 2, _, hfk, h1, hi2, hd2 =>
      obtain ⟨t, a, d, b, q, rfl, h2⟩ := urr_inv (show urr st _ = some r0 from h1)
      obtain ⟨hc, h4⟩ := bif_inv h2
      obtain ⟨hv, h3⟩ := ite_inv h4
      simp only [Bool.and_eq_true] at hc
      obtain ⟨⟨hph, hc⟩, hc2⟩ := hc
      have hc : f1 = t := nbeq_t hc
      have hc2 : dt = d := nbeq_t hc2
      subst hc; subst hc2
      have hph : ph = false := by cases ph <;> first | rfl | cases hph
      subst hph
      obtain ⟨h0, ho⟩ := fi_ok (fi_tl fi)
      obtain ⟨h0b, hob⟩ := fi_ok fi
      obtain ⟨d1, d2, d3⟩ := hd2 rfl
      have hr := ho.1 (by omega)
      have hrb := hob.1 d2
      show W p l e R s m args below meth c H locs (cX mi X) (sX mi X) Q (F0 m pc ls (tvG G (pR dt b) :: tvG G (pR f1 a) :: q.map (tvG G)))
      rw [tv_ref (a := b) d2, tv_ref (a := a) (by omega)]
      exact put_r (d := 0) hx hb (fi_tl (fi_tl fi)) hts hown hSI hr.2 c2 c1 hr.1 hC hk hlink (by rw [hfk]) hd (hi2 rfl).1 (hi2 rfl).2 (by rw [hfk]; exact hv) hrb.1 (fun H1 lc f2 => ih _ _ _ _ _ _ _ _ h3 f2)
    | n + 3, hkd, _, _, _, _ => omega
  · cases e; cases h1
  · cases e; cases h1
set_option maxHeartbeats 1000000 in
theorem fr_iaload (hx : p.tables.exec = Jvm.exec) (hb : c.code = cc) (ih : IHK p l e R s m args below meth c Q G mi nL ph K r0) (fi : FI G s H locs ph nL M X ls L st) (h : stp ph cl mi lv K (pc, .iaload, 1, tg, cv) L st M X = some r0) (hd : decode cc pc = .ok (.iaload, 1)) (hts : ∀ w ∈ gwT, w.before args s = true) (hSI : SI G s)  : W p l e R s m args below meth c H locs (cX mi X) (sX mi X) Q (F0 m pc ls ((st).map (tvG G))) := by
  unfold stp at h
  dsimp only at h
  obtain ⟨t, a, i, q, rfl, h1⟩ := uir_inv h
  obtain ⟨h0, ho⟩ := fi_ok (fi_tl fi)
  cases hb1 : Nat.beq t 14 with
  | true =>
    rw [hb1] at h1
    obtain ⟨hin, h2⟩ := ite_inv h1
    have ht : t = 14 := nbeq_t hb1
    subst ht
    have hr := ho.1 (by decide)
    exact va_iald hx hb hSI.2.1 fi.1.1 a 0 (ws_ai hr.2 hr.1) rfl (inB_in hin) hd (ih _ _ _ _ _ _ _ _ h2 (fi_I (fi_tl (fi_tl fi))))
  | false =>
    rw [hb1] at h1
    obtain ⟨hc, h3⟩ := bif_inv (show (bif Nat.beq t 17 then _ else none) = some r0 from h1)
    obtain ⟨hin, h2⟩ := ite_inv h3
    have ht : t = 17 := nbeq_t hc
    subst ht
    have hlt : i.toNatClampNeg < X.2.2.2.2.2 := Nat.not_le.mp fun q => inB_in hin (Or.inr q)
    have hL : X.2.2.2.2.2 = gN G := fi.1.2.2.2.2.2
    have hC := hSI.2.2.2.2.2.2.2.2.2.2.1
    refine va_sld hx hb hSI.2.2.2.2.2.2.2.2.2.2.2 (Nat.lt_of_lt_of_le hC hSI.1) (fun q => absurd (Nat.lt_of_lt_of_le hC q) (Nat.lt_irrefl _)) fi.2.2.1 (inB_in (by rw [← hL]; exact hin)) hd ?_
    rw [← fi.1.2.2.2.1 _ hlt]
    exact ih _ _ _ _ _ _ _ _ h2 (fi_I (fi_tl (fi_tl fi)))
set_option maxHeartbeats 1000000 in
theorem fr_baload (hx : p.tables.exec = Jvm.exec) (hb : c.code = cc) (ih : IHK p l e R s m args below meth c Q G mi nL ph K r0) (fi : FI G s H locs ph nL M X ls L st) (h : stp ph cl mi lv K (pc, .baload, 1, tg, cv) L st M X = some r0) (hd : decode cc pc = .ok (.baload, 1)) (hts : ∀ w ∈ gwT, w.before args s = true) (hSI : SI G s)  : W p l e R s m args below meth c H locs (cX mi X) (sX mi X) Q (F0 m pc ls ((st).map (tvG G))) := by
  unfold stp at h
  dsimp only at h
  obtain ⟨t, a, i, q, rfl, h1⟩ := uir_inv h
  obtain ⟨hc, h3⟩ := bif_inv h1
  obtain ⟨hin, h2⟩ := ite_inv h3
  have ht : t = 19 := nbeq_t hc
  subst ht
  obtain ⟨h0, ho⟩ := fi_ok (fi_tl fi)
  have ha : a < 22 := ho.2.2.1 (Or.inr rfl)
  have E1 := (hSI.2.2.1.1 a ha).2.2.2
  have el : slnL.getD a 0 = sln a := by
    unfold slnL sln
    rw [List.getD_eq_getElem?_getD, List.getElem?_map, List.getD_eq_getElem?_getD]
    cases strT[a]? <;> rfl
  rw [el] at E1
  have hlt : i.toNatClampNeg < sln a := Nat.not_le.mp fun q => inB_in hin (Or.inr q)
  have e1 : sbyt.getD a [] = (strT.getD a []).map Int32.ofNat := by
    unfold sbyt
    simp only [List.getD_eq_getElem?_getD, List.getElem?_map]
    cases strT[a]? <;> rfl
  have ev : (sbyt.getD a []).getD i.toNatClampNeg 0 = Int32.ofNat (sch a i.toNatClampNeg) := by
    rw [e1]
    unfold sch
    unfold sln at hlt
    rw [List.getD_eq_getElem?_getD, List.getElem?_map, List.getD_eq_getElem?_getD (l := strT.getD a []), List.getElem?_eq_getElem hlt]
    rfl
  refine va_tb hx hb E1 fi.2.2.1 (inB_in hin) rfl hd ?_
  rw [ev]
  exact ih _ _ _ _ _ _ _ _ h2 (fi_I (fi_tl (fi_tl fi)))
set_option maxHeartbeats 1000000 in
theorem fr_iastore (hx : p.tables.exec = Jvm.exec) (hb : c.code = cc) (ih : IHK p l e R s m args below meth c Q G mi nL ph K r0) (fi : FI G s H locs ph nL M X ls L st) (h : stp ph cl mi lv K (pc, .iastore, 1, tg, cv) L st M X = some r0) (hd : decode cc pc = .ok (.iastore, 1)) (hts : ∀ w ∈ gwT, w.before args s = true) (hSI : SI G s)  : W p l e R s m args below meth c H locs (cX mi X) (sX mi X) Q (F0 m pc ls ((st).map (tvG G))) := by
  unfold stp at h
  dsimp only at h
  obtain ⟨t, a, i, v, q, rfl, h1⟩ := uiir_inv h
  obtain ⟨hc, h3⟩ := bif_inv h1
  obtain ⟨hin, h2⟩ := ite_inv h3
  have ht : t = 14 := nbeq_t hc
  subst ht
  obtain ⟨h0, ho⟩ := fi_ok (fi_tl (fi_tl fi))
  have hr := ho.1 (by decide)
  have ha := ws_ai (G := G) (M := M) hr.2 hr.1
  refine W.iast hx hb (fi.1.1 a _ ha) ((hSI.2.1.2 0 _ rfl).1 (ln a) (fun j => .int (M a j))) (fun q => by cases q) (by show ¬ (i < 0 ∨ (arrV _ _ _).slots.size ≤ _); rw [arrV_size]; exact inB_in hin) rfl rfl hd fun H1 e z oq => ?_
  have hP := fi.1.1.set wsM_D ha (e := .inl (gI G, ln a, .inl (fun j => upM M a i.toNatClampNeg v a j))) (H1 := H1) ?_ oq
  · rw [wsM_set (ceM_i hr.2) (fun j hj => ceM_ne hj)] at hP
    exact ih _ _ _ _ _ _ _ _ h2 (fi_up (fi_tl (fi_tl (fi_tl fi))) (by rw [hr.2]; decide) (Or.inl (nrf_i hr.2)) hP z oq)
  · show H1[gb G + a]? = some (vp_cell _ _)
    rw [e]
    show some ((vp_cell _ (ln a, .inl (fun j => M a j))).setSlot _ _) = _
    rw [vp_cell_i, vp_cell_i, arrV_store]
    congr 2
    funext j
    by_cases hj : j = i.toNatClampNeg
    · subst hj
      simp [updV, upM_self]
    · simp [updV, hj, upM_nk hj]
set_option maxHeartbeats 1000000 in
theorem fr_laload (hx : p.tables.exec = Jvm.exec) (hb : c.code = cc) (ih : IHK p l e R s m args below meth c Q G mi nL ph K r0) (fi : FI G s H locs ph nL M X ls L st) (h : stp ph cl mi lv K (pc, .laload, 1, tg, cv) L st M X = some r0) (hd : decode cc pc = .ok (.laload, 1)) (hts : ∀ w ∈ gwT, w.before args s = true) (hSI : SI G s)  : W p l e R s m args below meth c H locs (cX mi X) (sX mi X) Q (F0 m pc ls ((st).map (tvG G))) := by
  unfold stp at h
  dsimp only at h
  obtain ⟨t, a, i, q, rfl, h1⟩ := uir_inv h
  obtain ⟨hc, h3⟩ := bif_inv h1
  obtain ⟨hin, h2⟩ := ite_inv h3
  have ht : t = 15 := nbeq_t hc
  subst ht
  obtain ⟨h0, ho⟩ := fi_ok (fi_tl fi)
  have hr := ho.1 (by decide)
  exact va_lald hx hb hSI.2.1 fi.1.1 a 1 (ws_al hr.2 hr.1) rfl (inB_in hin) hd (ih _ _ _ _ _ _ _ _ h2 (fi_L (fi_tl (fi_tl fi))))
set_option maxHeartbeats 1000000 in
theorem fr_lastore (hx : p.tables.exec = Jvm.exec) (hb : c.code = cc) (ih : IHK p l e R s m args below meth c Q G mi nL ph K r0) (fi : FI G s H locs ph nL M X ls L st) (h : stp ph cl mi lv K (pc, .lastore, 1, tg, cv) L st M X = some r0) (hd : decode cc pc = .ok (.lastore, 1)) (hts : ∀ w ∈ gwT, w.before args s = true) (hSI : SI G s)  : W p l e R s m args below meth c H locs (cX mi X) (sX mi X) Q (F0 m pc ls ((st).map (tvG G))) := by
  unfold stp at h
  dsimp only at h
  obtain ⟨t, a, i, v, q, rfl, h1⟩ := ulir_inv h
  obtain ⟨hc, h3⟩ := bif_inv h1
  obtain ⟨hin, h2⟩ := ite_inv h3
  have ht : t = 15 := nbeq_t hc
  subst ht
  obtain ⟨h0, ho⟩ := fi_ok (fi_tl (fi_tl fi))
  have hr := ho.1 (by decide)
  have ha := ws_al (G := G) (M := M) hr.2 hr.1
  have hl : a = 828 := long_one hr.2
  have hl1 : ln a = 1 := by rw [hl]; decide +kernel
  have ho1 : ∀ j, j ≠ a → tyA j ≠ 15 := fun j hj q => hj ((long_one q).trans hl.symm)
  clear hl
  refine W.last hx hb (fi.1.1 a _ ha) ((hSI.2.1.2 1 _ rfl).1 (ln a) (fun j => .long X.1)) (fun q => by cases q) (by show ¬ (i < 0 ∨ (arrV _ _ _).slots.size ≤ _); rw [arrV_size]; exact inB_in hin) rfl rfl hd fun H1 e z oq => ?_
  have hP := fi.1.1.set wsM_D ha (e := .inl (gL G, ln a, .inr (.inl (fun _ => v)))) (H1 := H1) ?_ oq
  · have hw : (wsM G M X).set a (gb G + a, .inl (gL G, ln a, .inr (.inl (fun _ => v)))) = wsM G M (v, X.2) := wsM_setX rfl (ceM_l hr.2) (fun j hj => ceM_X (ho1 j hj))
    rw [hw] at hP
    refine ih _ _ _ _ (v, X.2) H1 _ _ h2 ?_
    have f3 := fi_tl (fi_tl (fi_tl fi))
    exact ⟨⟨hP, fun q => by rw [z]; exact f3.1.2.1 q, f3.1.2.2⟩, f3.2.1, f3.2.2.1.put z oq (Nat.le_add_right _ _), f3.2.2.2⟩
  · show H1[gb G + a]? = some (vp_cell _ _)
    rw [e]
    show some ((vp_cell _ (ln a, .inr (.inl (fun j => X.1)))).setSlot _ _) = _
    rw [vp_cell_l, vp_cell_l, arrV_store]
    have hj0 : i.toNatClampNeg = 0 := by
      have h9 : ¬ ln a ≤ i.toNatClampNeg := fun q => inB_in hin (Or.inr q)
      rw [hl1] at h9
      omega
    rw [hj0, hl1]
    have e9 : ∀ f g : Nat → Value, f 0 = g 0 → arrV (gL G) 1 f = arrV (gL G) 1 g := by
      intro f g h
      have : (Array.ofFn (n := 1) fun j => f j.val) = Array.ofFn (n := 1) fun j => g j.val := by
        apply Array.ext
        · simp
        · intro k h1 h2
          simp at h1
          subst h1
          simpa using h
      unfold arrV
      rw [this]
    exact congrArg some (e9 _ _ (by simp [updV]))
set_option maxHeartbeats 1000000 in
theorem fr_aaload (hx : p.tables.exec = Jvm.exec) (hb : c.code = cc) (ih : IHK p l e R s m args below meth c Q G mi nL ph K r0) (fi : FI G s H locs ph nL M X ls L st) (h : stp ph cl mi lv K (pc, .aaload, 1, tg, cv) L st M X = some r0) (hd : decode cc pc = .ok (.aaload, 1)) (hts : ∀ w ∈ gwT, w.before args s = true) (hSI : SI G s)  : W p l e R s m args below meth c H locs (cX mi X) (sX mi X) Q (F0 m pc ls ((st).map (tvG G))) := by
  unfold stp at h
  dsimp only at h
  obtain ⟨t, a, i, q, rfl, h1⟩ := uir_inv h
  obtain ⟨hc, h3⟩ := bif_inv h1
  obtain ⟨hin, h2⟩ := ite_inv h3
  simp only [Bool.and_eq_true] at hc
  obtain ⟨hph, hc⟩ := hc
  have ht : t = 16 := nbeq_t hc
  subst ht
  subst hph
  obtain ⟨h0, ho⟩ := fi_ok (fi_tl fi)
  have hr := ho.1 (by decide)
  have hlt : i.toNatClampNeg < 10 := Nat.not_le.mp fun q => inB_in hin (Or.inr q)
  have hrf : isRf a i.toNatClampNeg = true := by
    unfold isRf
    rw [hr.2, show Nat.blt i.toNatClampNeg 10 = true from Nat.ble_eq_true_of_le hlt]
    rfl
  have h1 := set_iff.mp (fi.2.1 rfl) a _ hr.1 hrf
  have hna := fi.1.2.2.2.2.1 a _ hr.1 hrf h1
  have hro : rof a i.toNatClampNeg = 1 + 50 * i.toNatClampNeg := by unfold rof; rw [hr.2]; rfl
  rw [hro] at hna
  have hl : a = 134 := acts_one hr.2
  refine va_aldq hx hb hSI.2.1 fi.1.1 a 2 (ws_as hr.2 hr.1) rfl (inB_in hin) hd ?_
  have e9 : va_rf (cvM G M a i.toNatClampNeg) = .ref (gb G + (a + 1 + 50 * i.toNatClampNeg)) := by unfold cvM; rw [if_pos h1]; rfl
  rw [e9]
  have h9 := ih _ _ _ _ _ _ _ _ h2 (fi_R (fi_tl (fi_tl fi)) (by decide) ⟨fun _ => ⟨by omega, by subst hl; exact st_at hlt⟩, fun q => absurd q (by decide), fun q => absurd q (by decide), by decide⟩)
  exact h9
set_option maxHeartbeats 1000000 in
theorem fr_aastore (hx : p.tables.exec = Jvm.exec) (hb : c.code = cc) (hCS : CTok 6) (ih : IHK p l e R s m args below meth c Q G mi nL ph K r0) (fi : FI G s H locs ph nL M X ls L st) (h : stp ph cl mi lv K (pc, .aastore, 1, tg, cv) L st M X = some r0) (hd : decode cc pc = .ok (.aastore, 1)) (hts : ∀ w ∈ gwT, w.before args s = true) (hSI : SI G s)  : W p l e R s m args below meth c H locs (cX mi X) (sX mi X) Q (F0 m pc ls ((st).map (tvG G))) := by
  unfold stp at h
  dsimp only at h
  obtain ⟨t, a, i, d, b, q, rfl, h1⟩ := urir_inv h
  obtain ⟨hc, h3⟩ := bif_inv h1
  obtain ⟨⟨hin, hbe⟩, h2⟩ := ite_inv h3
  simp only [Bool.and_eq_true] at hc
  obtain ⟨⟨hph, hc⟩, hc2⟩ := hc
  have ht : t = 16 := nbeq_t hc
  have ht2 : d = 6 := nbeq_t hc2
  subst ht; subst ht2
  have hph : ph = false := by cases ph <;> first | rfl | cases hph
  subst hph
  obtain ⟨h0, ho⟩ := fi_ok (fi_tl (fi_tl fi))
  obtain ⟨h0b, hob⟩ := fi_ok fi
  have hr := ho.1 (by decide)
  have hrb := hob.1 (by decide)
  have hlt : i.toNatClampNeg < 10 := Nat.not_le.mp fun q => inB_in hin (Or.inr q)
  have h00 : ¬ i < 0 := fun q => inB_in hin (Or.inl q)
  have ha := ws_as (G := G) (M := M) hr.2 hr.1
  have hv := ws_at (G := G) (M := M) hrb.2 (by decide) hrb.1
  obtain ⟨C1, -⟩ := hCS
  obtain ⟨r', hr', cellV, g1, g2, g3, -⟩ := fi.1.1 b _ hv
  have hrr : r' = clT 6 := Option.some.inj (hr'.symm.trans C1)
  subst hrr
  have hKn := hSI.2.1.1 _ _ C1
  obtain ⟨hS6, hfc, kC, hkC, hkind⟩ := hKn
  obtain ⟨hAr, kA, comp, u1, u2, u3, u4⟩ := hSI.2.1.2 2 _ rfl
  have hcls : (clT 6).1 = "MergeBelts$State" := rfl
  rw [hcls] at hfc
  cases hfc.symm.trans u3
  refine W.aast hx hb (cv := cellV) (v := gb G + b) (fi.1.1 a _ ha) (fun q z => by cases z) (fun z => by cases z) u1 u2 rfl hkC ⟨h00, by show _ < (arrV _ _ _).slots.size; rw [arrV_size]; exact hlt⟩ g1 (fun q z => by rw [g3] at z; cases z) (by rw [g2]; exact hkC) (by rw [g2]; exact va_assign (C := "MergeBelts$State") ⟨u3, kC, hkC, hkind⟩) rfl rfl hd fun H1 e z oq => ?_
  have hP := fi.1.1.set wsM_D ha (e := .inl (gS G, 10, .inr (.inr (.inr (.inr (cvM G (upM M a i.toNatClampNeg 1) a)))))) (H1 := H1) ?_ oq
  · rw [wsM_set (ceM_s hr.2) (fun j hj => ceM_ne hj)] at hP
    have hro : rof a i.toNatClampNeg = 1 + 50 * i.toNatClampNeg := by unfold rof; rw [hr.2]; rfl
    exact ih _ _ _ _ _ _ _ _ h2 (fi_up (fi_tl (fi_tl (fi_tl fi))) (by rw [hr.2]; decide) (Or.inr ⟨rfl, fun _ => by rw [hro]; omega⟩) hP z oq)
  · show H1[gb G + a]? = some (vp_cell _ _)
    rw [e]
    show some ((vp_cell _ (10, .inr (.inr (.inr (.inr (cvM G M a)))))).setSlot _ _) = _
    rw [vp_cell_q, vp_cell_q, arrV_store]
    congr 2
    funext j
    by_cases hj : j = i.toNatClampNeg
    · subst hj
      unfold cvM
      rw [if_pos upM_self]
      simp [updV, va_rf, hbe]
    · unfold cvM
      rw [upM_nk hj]
      simp [updV, hj]
set_option maxHeartbeats 1000000 in
theorem fr_arraylength (hx : p.tables.exec = Jvm.exec) (hb : c.code = cc) (ih : IHK p l e R s m args below meth c Q G mi nL ph K r0) (fi : FI G s H locs ph nL M X ls L st) (h : stp ph cl mi lv K (pc, .arraylength, 1, tg, cv) L st M X = some r0) (hd : decode cc pc = .ok (.arraylength, 1)) (hts : ∀ w ∈ gwT, w.before args s = true) (hSI : SI G s)  : W p l e R s m args below meth c H locs (cX mi X) (sX mi X) Q (F0 m pc ls ((st).map (tvG G))) := by
  unfold stp at h
  dsimp only at h
  obtain ⟨t, a, q, rfl, h1⟩ := ur1_inv h
  obtain ⟨h0, ho⟩ := fi_ok fi
  cases hb1 : (Nat.beq t 14 || Nat.beq t 16) with
  | true =>
    rw [hb1] at h1
    simp only [Bool.or_eq_true] at hb1
    rcases hb1 with hb1 | hb1
    · have ht : t = 14 := nbeq_t hb1
      subst ht
      have hr := ho.1 (by decide)
      exact va_alen hx hb hSI.2.1 fi.1.1 a 0 (ws_ai hr.2 hr.1) rfl rfl hd (ih _ _ _ _ _ _ _ _ h1 (fi_I (fi_tl fi)))
    · have ht : t = 16 := nbeq_t hb1
      subst ht
      have hr := ho.1 (by decide)
      have hl : ln a = 10 := by rw [acts_one hr.2]; decide +kernel
      exact va_alen hx hb hSI.2.1 fi.1.1 a 2 (ws_as hr.2 hr.1) rfl (by rw [hl]) hd (ih _ _ _ _ _ _ _ _ h1 (fi_I (fi_tl fi)))
  | false =>
    rw [hb1] at h1
    cases hb2 : Nat.beq t 19 with
    | true =>
      rw [hb2] at h1
      have ht : t = 19 := nbeq_t hb2
      subst ht
      have ha : a < 22 := ho.2.2.1 (Or.inr rfl)
      have E1 := (hSI.2.2.1.1 a ha).2.2.2
      have el : slnL.getD a 0 = sln a := by
        unfold slnL sln
        rw [List.getD_eq_getElem?_getD, List.getElem?_map, List.getD_eq_getElem?_getD]
        cases strT[a]? <;> rfl
      rw [el] at E1
      obtain ⟨cell, k1, k2, k3, k4, k5, k6, k7⟩ := E1
      exact W.alen (n := Int32.ofNat (sln a)) hx hb (by rw [fi.2.2.1.2.1 _ (Array.getElem?_eq_some_iff.mp k1).1 k7]; exact k1) k2 k5 rfl rfl hd (ih _ _ _ _ _ _ _ _ h1 (fi_I (fi_tl fi)))
    | false =>
      rw [hb2] at h1
      obtain ⟨hc, h2⟩ := bif_inv (show (bif Nat.beq t 17 then _ else none) = some r0 from h1)
      have ht : t = 17 := nbeq_t hc
      subst ht
      have hC := hSI.2.2.2.2.2.2.2.2.2.2.1
      refine va_slen hx hb hSI.2.2.2.2.2.2.2.2.2.2.2 (Nat.lt_of_lt_of_le hC hSI.1) (fun q => absurd (Nat.lt_of_lt_of_le hC q) (Nat.lt_irrefl _)) fi.2.2.1 hd ?_
      rw [← fi.1.2.2.2.2.2]
      exact ih _ _ _ _ _ _ _ _ h2 (fi_I (fi_tl fi))
set_option maxHeartbeats 1000000 in
theorem fr_getstatic {i : Nat} (hx : p.tables.exec = Jvm.exec) (hb : c.code = cc) (ih : IHK p l e R s m args below meth c Q G mi nL ph K r0) (fi : FI G s H locs ph nL M X ls L st) (h : stp ph cl mi lv K (pc, .getstatic i, 3, tg, cv) L st M X = some r0) (hd : decode cc pc = .ok (.getstatic i, 3)) (hown : s.vm.findClass (cn (ownM mi)) = some m.cls) (hts : ∀ w ∈ gwT, w.before args s = true) (hSI : SI G s) (hG : ∀ q ∈ gstP (ownM mi), (q.2 = pI 1 ∧ Cond.fieldLink (cn (ownM mi)) q.1 "java/lang/String" "COMPACT_STRINGS" "Z" ∈ gwT) ∨ (q.2 = pR 20 0 ∧ Cond.fieldLink (cn (ownM mi)) q.1 "jdk/internal/util/Preconditions" "SIOOBE_FORMATTER" sioD ∈ gwT)) : W p l e R s m args below meth c H locs (cX mi X) (sX mi X) Q (F0 m pc ls ((st).map (tvG G))) := by
  unfold stp at h
  dsimp only at h
  obtain ⟨v, hv, h1⟩ := bind_inv h
  rcases hG _ (lkp_mem hv) with ⟨e, hl⟩ | ⟨e, hl⟩
  · dsimp only at e hl
    subst e
    exact va_gets hx hb hSI.2.2.2.2.1 fi.2.2.1 hown (hts _ hl) (fun _ h => h) hd (ih _ _ _ _ _ _ _ _ h1 (fi_I fi))
  · dsimp only at e hl
    subst e
    exact va_gets hx hb hSI.2.2.2.2.2.1 fi.2.2.1 hown (hts _ hl) (fun _ h => h) hd (ih _ _ _ _ _ _ _ _ h1 (fi_R fi (by decide) ⟨fun q => absurd q (by decide), fun q => absurd q (by decide), fun q => absurd q (by decide), by decide⟩))
def CEok (o : Nat) (q : Nat × PV) : Prop := (∃ v, q.2 = pI v ∧ Cond.constant (cn o) q.1 v ∈ gwT) ∨ (∃ v, q.2 = pL v ∧ Cond.constantLong (cn o) q.1 v ∈ gwT) ∨ ∃ k, q.2 = pR 18 k
theorem va_ldcSW9 {rest : List Value} (hexec : p.tables.exec = Jvm.exec) (hb : c.code = cc) {own tx : String} {index q cells slots : Nat} (hown : s.vm.findClass own = some m.cls) (hZ : vk_R own index tx q s) (hdg : decode cc pc = .ok (.ldc_w index, 3))
    (k : W p l e R s m args below meth c H locs cells slots Q (F0 m (pc + 3) ls (.ref q :: rest))) : W p l e R s m args below meth c H locs cells slots Q (F0 m pc ls rest) := by
  intro T hT X
  obtain ⟨t, a1, b1⟩ := k T hT X
  exact ⟨t, X.ldcStringW hexec hown (text := tx) (a := q) hZ.1 hZ.2 (g := F0 m pc ls rest) rfl (by rw [hb]; exact hdg) t a1, b1⟩
set_option maxHeartbeats 1000000 in
theorem fr_ldc {i : Nat} (hx : p.tables.exec = Jvm.exec) (hb : c.code = cc) (ih : IHK p l e R s m args below meth c Q G mi nL ph K r0) (fi : FI G s H locs ph nL M X ls L st) (h : stp ph cl mi lv K (pc, .ldc i, 2, tg, cv) L st M X = some r0) (hd : decode cc pc = .ok (.ldc i, 2)) (hown : s.vm.findClass (cn (ownM mi)) = some m.cls) (hts : ∀ w ∈ gwT, w.before args s = true) (hSI : SI G s) (ho : ownM mi < 19) (hC : ∀ q ∈ cstP (ownM mi), CEok (ownM mi) q) (hL : ∀ v, lkp (cstP (ownM mi)) i = some v → ∀ x, v ≠ pL x) : W p l e R s m args below meth c H locs (cX mi X) (sX mi X) Q (F0 m pc ls ((st).map (tvG G))) := by
  unfold stp at h
  dsimp only at h
  obtain ⟨v, hv, h1⟩ := bind_inv h
  rcases hC _ (lkp_mem hv) with ⟨w, e, hl⟩ | ⟨w, e, hl⟩ | ⟨k, e⟩
  · dsimp only at e hl
    subst e
    exact W.ldc hx hb hown (hts _ hl) rfl hd (ih _ _ _ _ _ _ _ _ h1 (fi_I fi))
  · exact absurd e (hL _ hv w)
  · dsimp only at e
    subst e
    obtain ⟨hk, tx, hr⟩ := hSI.2.2.2.1 _ _ _ ho hv
    have h9 := ih _ _ _ _ _ _ _ _ h1 (fi_R fi (by decide) ⟨fun q => absurd q (by decide), fun q => absurd q (by decide), fun _ => hk, by decide⟩)
    exact va_ldcS hx hb hown hr hd h9
set_option maxHeartbeats 1000000 in
theorem fr_ldc_w {i : Nat} (hx : p.tables.exec = Jvm.exec) (hb : c.code = cc) (ih : IHK p l e R s m args below meth c Q G mi nL ph K r0) (fi : FI G s H locs ph nL M X ls L st) (h : stp ph cl mi lv K (pc, .ldc_w i, 3, tg, cv) L st M X = some r0) (hd : decode cc pc = .ok (.ldc_w i, 3)) (hown : s.vm.findClass (cn (ownM mi)) = some m.cls) (hts : ∀ w ∈ gwT, w.before args s = true) (hSI : SI G s) (ho : ownM mi < 19) (hC : ∀ q ∈ cstP (ownM mi), CEok (ownM mi) q) (hL : ∀ v, lkp (cstP (ownM mi)) i = some v → ∀ x, v ≠ pL x) : W p l e R s m args below meth c H locs (cX mi X) (sX mi X) Q (F0 m pc ls ((st).map (tvG G))) := by
  unfold stp at h
  dsimp only at h
  obtain ⟨v, hv, h1⟩ := bind_inv h
  rcases hC _ (lkp_mem hv) with ⟨w, e, hl⟩ | ⟨w, e, hl⟩ | ⟨k, e⟩
  · dsimp only at e hl
    subst e
    exact lv_ldcw hx hb hown (hts _ hl) hd (ih _ _ _ _ _ _ _ _ h1 (fi_I fi))
  · exact absurd e (hL _ hv w)
  · dsimp only at e
    subst e
    obtain ⟨hk, tx, hr⟩ := hSI.2.2.2.1 _ _ _ ho hv
    have h9 := ih _ _ _ _ _ _ _ _ h1 (fi_R fi (by decide) ⟨fun q => absurd q (by decide), fun q => absurd q (by decide), fun _ => hk, by decide⟩)
    exact va_ldcSW9 hx hb hown hr hd h9
set_option maxHeartbeats 1000000 in
theorem fr_ldc2_w {i : Nat} (hx : p.tables.exec = Jvm.exec) (hb : c.code = cc) (ih : IHK p l e R s m args below meth c Q G mi nL ph K r0) (fi : FI G s H locs ph nL M X ls L st) (h : stp ph cl mi lv K (pc, .ldc2_w i, 3, tg, cv) L st M X = some r0) (hd : decode cc pc = .ok (.ldc2_w i, 3)) (hown : s.vm.findClass (cn (ownM mi)) = some m.cls) (hts : ∀ w ∈ gwT, w.before args s = true) (hSI : SI G s) (ho : ownM mi < 19) (hC : ∀ q ∈ cstP (ownM mi), CEok (ownM mi) q) (hL : ∀ v, lkp (cstP (ownM mi)) i = some v → ∃ x, v = pL x) : W p l e R s m args below meth c H locs (cX mi X) (sX mi X) Q (F0 m pc ls ((st).map (tvG G))) := by
  unfold stp at h
  dsimp only at h
  obtain ⟨v, hv, h1⟩ := bind_inv h
  obtain ⟨x, rfl⟩ := hL _ hv
  rcases hC _ (lkp_mem hv) with ⟨w, e, hl⟩ | ⟨w, e, hl⟩ | ⟨k, e⟩
  · cases e
  · cases e
    exact W.ldc2 hx hb hown (hts _ hl) rfl hd (ih _ _ _ _ _ _ _ _ h1 (fi_L fi))
  · cases e
set_option maxHeartbeats 1000000 in
theorem fr_ifnull {off : Int} (hx : p.tables.exec = Jvm.exec) (hb : c.code = cc) (ih : IHK p l e R s m args below meth c Q G mi nL ph K r0) (fi : FI G s H locs ph nL M X ls L st) (h : stp ph cl mi lv K (pc, .ifnull off, 3, tg, cv) L st M X = some r0) (hd : decode cc pc = .ok (.ifnull off, 3)) : W p l e R s m args below meth c H locs (cX mi X) (sX mi X) Q (F0 m pc ls ((st).map (tvG G))) := by
  unfold stp at h
  dsimp only at h
  obtain ⟨t, a, q, rfl, h1⟩ := ur1_inv h
  obtain ⟨h0, h2⟩ := bif_inv h1
  have ht : t = 6 := nbeq_t h0
  subst ht
  show W p l e R s m args below meth c H locs (cX mi X) (sX mi X) Q (F0 m pc ls (tvG G (pR 6 a) :: q.map (tvG G)))
  rw [tv_ref (by decide)]
  exact lv_ifnull hx hb hd (ih _ _ _ _ _ _ _ _ h2 (fi_tl fi))
set_option maxHeartbeats 1000000 in
theorem fr_ifnonnull {off : Int} (hx : p.tables.exec = Jvm.exec) (hb : c.code = cc) (ih : IHK p l e R s m args below meth c Q G mi nL ph K r0) (fi : FI G s H locs ph nL M X ls L st) (h : stp ph cl mi lv K (pc, .ifnonnull off, 3, tg, cv) L st M X = some r0) (hd : decode cc pc = .ok (.ifnonnull off, 3)) (ht0 : (pc : Int) + off = (tg : Int)) : W p l e R s m args below meth c H locs (cX mi X) (sX mi X) Q (F0 m pc ls ((st).map (tvG G))) := by
  unfold stp at h
  dsimp only at h
  obtain ⟨t, a, q, rfl, h1⟩ := ur1_inv h
  obtain ⟨h0, h2⟩ := bif_inv h1
  have ht : t = 6 := nbeq_t h0
  subst ht
  show W p l e R s m args below meth c H locs (cX mi X) (sX mi X) Q (F0 m pc ls (tvG G (pR 6 a) :: q.map (tvG G)))
  rw [tv_ref (by decide)]
  exact lv_ifnonnull hx hb hd ht0 (ih _ _ _ _ _ _ _ _ h2 (fi_tl fi))
theorem sw_at (KK : Nat → Option PRs) (x : Int32) (d : Nat) : ∀ (T : List (Int32 × Nat)), (∃ k : Nat, T[k]? = some (x, k) ∧ False) ∨ (∃ (k t : Nat), T[k]? = some (x, t) ∧ (∀ j : Nat, j < k → ∀ (v : Int32) (u : Nat), T[j]? = some (v, u) → v ≠ x) ∧ sw KK x d T = KK t) ∨ ((∀ q ∈ T, q.1 ≠ x) ∧ sw KK x d T = KK d)
  | [] => Or.inr (Or.inr ⟨fun _ h => (by cases h), rfl⟩)
  | (v, t) :: r => by
    by_cases hv : x = v
    · subst hv
      exact Or.inr (Or.inl ⟨0, t, rfl, fun j hj => absurd hj (Nat.not_lt_zero _), by show (if x = x then _ else _) = _; rw [if_pos rfl]⟩)
    · have e : sw KK x d ((v, t) :: r) = sw KK x d r := by show (if x = v then _ else _) = _; rw [if_neg hv]
      rcases sw_at KK x d r with ⟨k, -, q⟩ | ⟨k, u, h1, h2, h3⟩ | ⟨h1, h2⟩
      · exact q.elim
      · refine Or.inr (Or.inl ⟨k + 1, u, by simpa using h1, fun j hj w y hw => ?_, by rw [e]; exact h3⟩)
        cases j with
        | zero => simp at hw; rw [← hw.1]; exact fun q => hv q.symm
        | succ j => exact h2 j (by omega) w y (by simpa using hw)
      · refine Or.inr (Or.inr ⟨fun q hq => ?_, by rw [e]; exact h2⟩)
        rcases List.mem_cons.mp hq with rfl | hq
        · exact fun q => hv q.symm
        · exact h1 q hq
/-- the pairs of a switch by its instruction -/
def tsOK (pc tg : Nat) (d lo hi : Int) (offs : Array Int) (T : List (Int32 × Nat)) : Prop := (pc : Int) + d = (tg : Int) ∧ (∀ x : Int32, (∀ q ∈ T, q.1 ≠ x) → x.toInt < lo ∨ hi < x.toInt) ∧
  ∀ (k : Nat) (x : Int32) (t : Nat), T[k]? = some (x, t) → ¬ x.toInt < lo ∧ ¬ hi < x.toInt ∧ ∃ off, offs[(x.toInt - lo).toNat]? = some off ∧ (pc : Int) + off = (t : Int)
def lsOK (pc tg : Nat) (d : Int) (ps : Array (Int × Int)) (T : List (Int32 × Nat)) : Prop := (ps.toList.zip (ps.toList.drop 1)).all (fun (a, next) => a.1 < next.1) = true ∧ (pc : Int) + d = (tg : Int) ∧ (∀ x : Int32, (∀ q ∈ T, q.1 ≠ x) → Op.lookupswitch.offset ps.toList d x.toInt = d) ∧
  ∀ (k : Nat) (x : Int32) (t : Nat), T[k]? = some (x, t) → (pc : Int) + Op.lookupswitch.offset ps.toList d x.toInt = (t : Int)
set_option maxHeartbeats 1000000 in
theorem fr_tableswitch {d lo hi : Int} {offs : Array Int} {ln : Nat} (hx : p.tables.exec = Jvm.exec) (hb : c.code = cc) (ih : IHK p l e R s m args below meth c Q G mi nL ph K r0) (fi : FI G s H locs ph nL M X ls L st)(h : stp ph cl mi lv K (pc, .tableswitch d lo hi offs, ln, tg, cv) L st M X = some r0) (hd : decode cc pc = .ok (.tableswitch d lo hi offs, ln)) (hT : ∀ t, lkp swT mi = some t → t.1 = pc → tsOK pc tg d lo hi offs t.2) : W p l e R s m args below meth c H locs (cX mi X) (sX mi X) Q (F0 m pc ls ((st).map (tvG G))) := by
  unfold stp at h
  dsimp only at h
  obtain ⟨x, q, rfl, h1⟩ := u1_inv h
  obtain ⟨t, ht, h2⟩ := bind_inv h1
  obtain ⟨hp, h3⟩ := bif_inv h2
  obtain ⟨e1, e2, e3⟩ := hT t ht (nbeq_t hp)
  rcases sw_at (fun pc => K pc L q M X) x tg t.2 with ⟨k, -, q⟩ | ⟨k, u, g1, g2, g3⟩ | ⟨g1, g2⟩
  · exact q.elim
  · rw [g3] at h3
    obtain ⟨w1, w2, off, w3, w4⟩ := e3 k x u g1
    exact lv_tableIn hx hb hd w1 w2 w3 w4 (ih _ _ _ _ _ _ _ _ h3 (fi_tl fi))
  · rw [g2] at h3
    exact lv_tableOut hx hb hd (e2 x g1) e1 (ih _ _ _ _ _ _ _ _ h3 (fi_tl fi))
set_option maxHeartbeats 1000000 in
theorem fr_lookupswitch {d : Int} {ps : Array (Int × Int)} {ln : Nat} (hx : p.tables.exec = Jvm.exec) (hb : c.code = cc) (ih : IHK p l e R s m args below meth c Q G mi nL ph K r0) (fi : FI G s H locs ph nL M X ls L st)(h : stp ph cl mi lv K (pc, .lookupswitch d ps, ln, tg, cv) L st M X = some r0) (hd : decode cc pc = .ok (.lookupswitch d ps, ln)) (hT : ∀ t, lkp swT mi = some t → t.1 = pc → lsOK pc tg d ps t.2) : W p l e R s m args below meth c H locs (cX mi X) (sX mi X) Q (F0 m pc ls ((st).map (tvG G))) := by
  unfold stp at h
  dsimp only at h
  obtain ⟨x, q, rfl, h1⟩ := u1_inv h
  obtain ⟨t, ht, h2⟩ := bind_inv h1
  obtain ⟨hp, h3⟩ := bif_inv h2
  obtain ⟨e0, e1, e2, e3⟩ := hT t ht (nbeq_t hp)
  rcases sw_at (fun pc => K pc L q M X) x tg t.2 with ⟨k, -, q⟩ | ⟨k, u, g1, g2, g3⟩ | ⟨g1, g2⟩
  · exact q.elim
  · rw [g3] at h3
    exact lv_lookup hx hb hd e0 rfl (e3 k x u g1) (ih _ _ _ _ _ _ _ _ h3 (fi_tl fi))
  · rw [g2] at h3
    exact lv_lookup hx hb hd e0 (e2 x g1) e1 (ih _ _ _ _ _ _ _ _ h3 (fi_tl fi))
end FRB
