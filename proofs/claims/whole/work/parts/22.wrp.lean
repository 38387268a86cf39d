/-! the methods that catch -/
section WRP
set_option maxRecDepth 100000
theorem met_ofWH {l : Launch} {y : MethodName} {ws ws' : List Cond} {rm : Room} {Pc : Array Value → State → Prop} {Qc : Array Value → State → Outcome → State → Prop} {mc ms : Nat} {free : Addr → Prop} {cc : ByteArray} {maxL : Nat} {ret : Option FieldType} {hh : List (Nat × Nat × Nat × Nat)}
    (hy : plainName y.cls = true) (hw : ws = Cond.codeWith y cc maxL ret hh :: ws')
    (body : ∀ p e s m args below meth c s₁, BodyLoose p l y (headSpec ws rm) cc maxL ret e s m args below meth c s₁ → c.maxLocals = maxL → Pc args s →
      W p l e (headSpec ws rm).room s m args below meth c s.heap [] 0 0 (MQ below Qc args s mc ms free) (entryFrame m args maxL)) : Met l y ws rm Pc Qc mc ms free := by
  refine MetFree.of_bodyS (code := cc) (maxLocals := maxL) (ret := ret) hy ?_ ?_
  · intro args s m h hn
    obtain ⟨m9, meth, c, hn9, h1, h2, h3, h4, -, h5, h6, -⟩ := Cond.codeWith_spec (atoms_spec (ws := ws) h _ (by rw [hw]; exact List.mem_cons_self))
    cases hn.symm.trans hn9
    exact ⟨meth, c, h1, h2, h3, h4, h5, h6⟩
  · intro p e s m args below meth c s₁ B hml hP _
    have hh0 : s₁.heap = s.heap := by rw [B.state]; rfl
    obtain ⟨t, a1, o, b1, b2, b3⟩ := body p e s m args below meth c s₁ B hml hP s₁ hh0 (Stand.of_body B)
    exact ⟨t, o, a1, b1, b2, b3⟩
def hhN (m : Nat) : List (Nat × Nat × Nat × Nat) := match cdN m with
  | .codeWith _ _ _ _ hh => hh
  | _ => []
def isCw (m : Nat) : Bool := match cdN m with
  | .codeWith _ _ _ _ _ => true
  | _ => false
theorem cw_ok {m : Nat} (h : isCw m = true) : cdN m = .codeWith (yN m) (byN m) (mlN m) (rtN m) (hhN m) := by
  unfold isCw at h
  unfold yN byN mlN rtN hhN
  cases hc : cdN m <;> rw [hc] at h <;> first | rfl | cases h
theorem cw_gw {m : Nat} (h : isCw m = true) : Cond.codeWith (yN m) (byN m) (mlN m) (rtN m) (hhN m) ∈ gwT := by
  have h1 := cw_ok h
  unfold cdN at h1
  cases hn : lw_tbl[cwT.getD m 0]? with
  | none => rw [hn] at h1; cases h1
  | some w =>
    rw [hn] at h1
    have h1 : w = Cond.codeWith (yN m) (byN m) (mlN m) (rtN m) (hhN m) := h1
    rw [← h1]
    exact gw_of hn (by rw [h1]; rfl)
variable {p : Program} {l : Launch} {e : Env} {R : Room} {s : State} {m : MethodId} {args : Array Value} {below : List Frame} {meth : Method} {c : Code} {Q : State → Prop} {cc : ByteArray} {G : EG} {mi lv nL : Nat} {ph : Bool} {r0 : PRs} {pc : Nat} {K : KT} {L : List PV} {ls : Array Slot} {M : Mem} {X : PX} {H : Heap} {locs : List Loc}
def endB (cc : ByteArray) (h : Nat) (v : Int32) : Bool := match decode cc h with
  | .ok (.iconst n, 1) => decide (Int32.ofInt n = v) && decide (decode cc (h + 1) = .ok (.ireturn, 1))
  | _ => false
theorem end_ok {h : Nat} {v : Int32} (hb : endB cc h v = true) : ∃ n, decode cc h = .ok (.iconst n, 1) ∧ Int32.ofInt n = v ∧ decode cc (h + 1) = .ok (.ireturn, 1) := by
  unfold endB at hb
  split at hb
  · next n hd =>
    rw [Bool.and_eq_true, decide_eq_true_eq, decide_eq_true_eq] at hb
    exact ⟨n, hd, hb.1, hb.2⟩
  · cases hb
def hdlB (cc : ByteArray) (nL h : Nat) (v : Int32) : Bool := match decode cc h with
  | .ok (.astore_n k, 1) => Nat.blt k.val nL && endB cc (h + 1) v
  | .ok (.astore k, 2) => Nat.blt k nL && endB cc (h + 2) v
  | _ => false
theorem hdl_W {h cells slots : Nat} {v : Int32} {q : Addr} (hx : p.tables.exec = Jvm.exec) (hb : c.code = cc) (hh : hdlB cc nL h v = true) (hl : LRl G nL ls L)
    (kk : ∀ (pc : Nat) (ls' : Array Slot), ls'.size = nL → lv_wf ls' → decode cc pc = .ok (.ireturn, 1) → W p l e R s m args below meth c H locs cells slots Q (F0 m pc ls' [.int v])) : W p l e R s m args below meth c H locs cells slots Q (F0 m h ls [.ref q]) := by
  unfold hdlB at hh
  split at hh
  · next k hd =>
    rw [Bool.and_eq_true] at hh
    obtain ⟨n, e1, e2, e3⟩ := end_ok hh.2
    exact lv_astore_n hx hb hd rfl (lr_has hl) (lt_of_blt hh.1) rfl fun ls' h' => lv_iconst hx hb e1 e2 (kk _ ls' h'.1 h'.2.1 e3)
  · next k hd =>
    rw [Bool.and_eq_true] at hh
    obtain ⟨n, e1, e2, e3⟩ := end_ok hh.2
    exact lv_astore hx hb hd (lr_has hl) (lt_of_blt hh.1) rfl fun ls' h' => lv_iconst hx hb e1 e2 (kk _ ls' h'.1 h'.2.1 e3)
  · cases hh
def exL (e : Nat) : Nat := bif Nat.beq e 1 then 18 else 13
def rowB (cc : ByteArray) (nL pc : Nat) (v : Int32) (x : Nat × Nat × Nat × Nat) : Bool := covers ⟨x.1, x.2.1, x.2.2.1, x.2.2.2⟩ pc && hdlB cc nL x.2.2.1 v
def wrR (cc : ByteArray) (nL pc e : Nat) (v : Int32) (hh : List (Nat × Nat × Nat × Nat)) : Bool := match hh with
  | [] => false
  | x :: r => bif Nat.beq x.2.2.2 (exL e) then rowB cc nL pc v x else (Nat.beq e 2 && Nat.beq x.2.2.2 18 && (match r with
    | [] => false
    | y :: _ => Nat.beq y.2.2.2 13 && rowB cc nL pc v y))
def NC (s : State) : Prop := va_Nc "java/lang/IllegalArgumentException" "java/util/NoSuchElementException" s
theorem ex_cl {args : Array Value} {x : Nat} (hx : x = 1 ∨ x = 2) (hts : ∀ w ∈ gwT, w.before args s = true) (hSI : SI G s) : (Cond.classLink "MergeBeltsLaw" (exL x) (exN x)).before args s = true ∧ (Cond.castable (exN x) (exN x)).before args s = true ∧ exL x ≠ 0 := by
  have hn := hSI.2.2.2.2.2.2.2.1
  rcases hx with rfl | rfl
  · exact ⟨hts _ (hasW_in (i := 1009) (by decide +kernel)), va_Nw.use rfl (hn _ (List.mem_of_getElem? (i := 1029) (by decide +kernel)) rfl), by decide⟩
  · exact ⟨hts _ (hasW_in (i := 719) (by decide +kernel)), va_Nw.use rfl (hn _ (List.mem_of_getElem? (i := 726) (by decide +kernel)) rfl), by decide⟩
theorem wr_catch {hh : List (Nat × Nat × Nat × Nat)} {x cells slots : Nat} {v : Int32} {ce : Cell} {q : Addr} {rest : List Value} (hown : s.vm.findClass "MergeBeltsLaw" = some m.cls) (ht : c.exceptionTable.toList = tableOf hh) (h : wrR cc nL pc x v hh = true) (he : x = 1 ∨ x = 2) (hts : ∀ w ∈ gwT, w.before args s = true) (hSI : SI G s) (hNc : NC s)
    (hcell : H[q]? = some ce) (hv : ce.vm = .none) (hcl : s.vm.findClass (exN x) = some ce.cls) (kk : ∀ h, hdlB cc nL h v = true → W p l e R s m args below meth c H locs cells slots Q (F0 m h ls [.ref q])) : vx_W p l e R s m args below meth c H locs cells slots Q (F0 m pc ls rest) q := by
  obtain ⟨c1, c2, c3⟩ := ex_cl he hts hSI
  cases hh with
  | nil => cases h
  | cons y r =>
    unfold wrR at h
    dsimp only at h
    cases hb : Nat.beq y.2.2.2 (exL x) with
    | true =>
      rw [hb, cond_true] at h
      unfold rowB at h
      rw [Bool.and_eq_true] at h
      have hb := nbeq_t hb
      exact vx_catch (own := "MergeBeltsLaw") (name := exN x) hown [] ⟨y.1, y.2.1, y.2.2.1, y.2.2.2⟩ (tableOf r) (by rw [ht]; rfl) (fun z hz => by cases hz) h.1 (by show y.2.2.2 ≠ 0; rw [hb]; exact c3) (by show (Cond.classLink "MergeBeltsLaw" y.2.2.2 (exN x)).before args s = true; rw [hb]; exact c1) c2 hcell hv hcl (kk _ h.2)
    | false =>
      rw [hb, cond_false] at h
      cases r with
      | nil => simp at h
      | cons z r =>
        simp only [Bool.and_eq_true] at h
        obtain ⟨⟨h1, h2⟩, h3, h4⟩ := h
        have h1 := nbeq_t h1
        subst h1
        have h2 := nbeq_t h2
        have h3 := nbeq_t h3
        unfold rowB at h4
        rw [Bool.and_eq_true] at h4
        obtain ⟨d1, -, -⟩ := ex_cl (x := 1) (Or.inl rfl) hts hSI
        exact vx_catch (own := "MergeBeltsLaw") (name := exN 2) hown [⟨y.1, y.2.1, y.2.2.1, y.2.2.2⟩] ⟨z.1, z.2.1, z.2.2.1, z.2.2.2⟩ (tableOf r) (by rw [ht]; rfl) (fun u hu => by
          rcases List.mem_cons.mp hu with rfl | hu
          · exact Or.inr ⟨by show y.2.2.2 ≠ 0; rw [h2]; decide, exN 1, by show (Cond.classLink "MergeBeltsLaw" y.2.2.2 (exN 1)).before args s = true; rw [h2]; exact d1, hNc⟩
          · cases hu) h4.1 (by show z.2.2.2 ≠ 0; rw [h3]; decide) (by show (Cond.classLink "MergeBeltsLaw" z.2.2.2 (exN 2)).before args s = true; rw [h3]; exact c1) c2 hcell hv hcl (kk _ h4.2)
theorem call9x {hh : List (Nat × Nat × Nat × Nat)} {mc ms m9 : Nat} {r : List PV} {st0 : List Value} {q : PRs} {a : Array Value} {X9 : PX} (hx : p.tables.exec = Jvm.exec) (hb : c.code = cc) (hr : vx_Run p l e R s m args below meth c H locs (cX mi X) (sX mi X) mc ms (F0 m pc ls st0) (r.map (tvG G)) (Qc9 G true q a) (XC9 G q) (gA G)) (fi : FI G s H locs true nL M X ls L r)
    (ih : IHK p l e R s m args below meth c Q G mi nL true K r0) (hk : kRet true (alM mi) mi mc ms (pc + 3) K L r X q = some r0) (hP : PXI m9 X9 q) (hX9 : X9.2.1 = X.2.1) (hal : alM mi = true)
    (hown : s.vm.findClass "MergeBeltsLaw" = some m.cls) (ht : c.exceptionTable.toList = tableOf hh) (hw : ∀ x, x = 1 ∨ x = 2 → ∀ v, hdF hdT mi x = some v → wrR cc nL pc x v hh = true) (he12 : ∀ x v, hdF hdT mi x = some v → x = 1 ∨ x = 2) (hts : ∀ w ∈ gwT, w.before args s = true) (hSI : SI G s) (hNc : NC s)
    (hE : ENDS p l e R s m args below meth c Q cc G mi nL true r0) (hck : ckI mi (0, .ireturn, 1, 0, 0) = true) (hrk : rkM mi = 0) : W p l e R s m args below meth c H locs (cX mi X) (sX mi X) Q (F0 m pc ls st0) := by
  intro T hT XX
  obtain ⟨o', M', X1⟩ := q
  have c1 : cX mi (bkX (alM mi) mc ms X X1) = cX mi X + mc := by
    unfold cX bkX
    rw [hal]
    rfl
  have c2 : sX mi (bkX (alM mi) mc ms X X1) = sX mi X + ms := by
    unfold sX bkX
    rw [hal]
    rfl
  have hn : X.2.1 ≤ X1.2.1 := by rw [← hX9]; exact hP.1
  rcases hr T hT XX with ⟨v, st₀, t, T', L', h0, X', hL, e1, e2, ⟨⟨⟨o, ho, hv⟩, hh, hset⟩, hF⟩, stp⟩ | ⟨q9, st₀, t, T', L', E, ce, h0, X', hL, e1, e2, ⟨⟨x, ho, hE9⟩, hh, hset, hF⟩, hce, hcv, hcl, stp⟩
  · have ho : o' = .inl o := ho
    subst ho
    have hv : v = o.map (tvG G) := by injection hv
    subst hv
    have hk2 : K (pc + 3) L (o.toList ++ r) M' (bkX (alM mi) mc ms X X1) = some r0 := by cases o <;> exact hk
    obtain ⟨-, -, hS⟩ := vx_keep (A1 := gA G) h0 e1 fi.2.2.1 (fun q _ h => h) (fun q h => h) hL hF
    have hh : HR G M' X1 T'.heap := by rw [e1]; exact hh
    have f9 : FI G s T'.heap (locs ++ L') true nL M' (bkX (alM mi) mc ms X X1) ls L (o.toList ++ r) := fi_back fi hh hset hS hn fun w hw => by
      have hw2 : o = some w := by simpa using hw
      subst hw2
      rcases hP.2.2.2.1 w rfl with ⟨x, rfl⟩ | ⟨x, rfl⟩
      · exact ⟨trivial, trivial⟩
      · exact ⟨trivial, trivial⟩
    have h9 := ih _ _ _ _ _ _ _ _ hk2 f9
    rw [c1, c2] at h9
    have e3 : (o.toList ++ r).map (tvG G) = (o.map (tvG G)).toList ++ r.map (tvG G) := by cases o <;> rfl
    rw [e3] at h9
    obtain ⟨t2, a1, b1⟩ := h9 T' rfl X'
    exact ⟨t2, stp t2 a1, b1⟩
  · have ho : o' = .inr x := ho
    subst ho
    subst hE9
    have hk2 : (match hdF hdT mi x with | some v => some (.inl (some (pI v)), M', bkX (alM mi) mc ms X X1) | none => none) = some r0 := hk
    cases hv : hdF hdT mi x with
    | none => rw [hv] at hk2; cases hk2
    | some v =>
      rw [hv] at hk2
      have hk2 := Option.some.inj hk2
      obtain ⟨-, -, hS⟩ := vx_keep (A1 := gA G) h0 e1 fi.2.2.1 (fun q _ h => h) (fun q h => h) hL hF
      have hh : HR G M' X1 T'.heap := by rw [e1]; exact hh
      have hx12 := he12 x v hv
      have f9 : FI G s T'.heap (locs ++ L') true nL M' (bkX (alM mi) mc ms X X1) ls L ([] ++ r) := fi_back fi hh (fun _ => hset) hS hn fun w hw => by cases hw
      have key : vx_W p l e R s m args below meth c T'.heap (locs ++ L') (cX mi X + mc) (sX mi X + ms) Q (F0 m pc ls (r.map (tvG G))) q9 := by
        refine wr_catch (nL := nL) (cc := cc) (v := v) hown ht (hw x hx12 v hv) hx12 hts hSI hNc (by rw [e1]; exact hce) hcv hcl fun h hh9 => ?_
        refine hdl_W hx hb hh9 fi.2.2.2.1 fun pc9 ls9 hz hwf hd => ?_
        have hlr : LRl G nL ls9 (padl nL []) := ⟨plen_padl _ _ (Nat.zero_le _), hz, hwf, fun i v hv hg => by
          rw [nth_padl] at hv
          have hv : p0 = v := hv
          subst hv
          exact absurd rfl hg⟩
        have h10 := hE true pc9 (some (pI v)) (padl nL []) M' (bkX (alM mi) mc ms X X1) T'.heap (locs ++ L') ls9 (Or.inl ⟨hd, hck, v, rfl, by rw [hrk]; rfl⟩) hk2.symm ⟨f9.1, f9.2.1, f9.2.2.1, hlr, fun i => by rw [nth_padl]; exact fun h => absurd rfl h, fun v hv => (by cases hv), fi.2.2.2.2.2.2⟩ (fun _ => rfl)
        rw [c1, c2] at h10
        exact h10
      obtain ⟨t2, a1, b1⟩ := key T' rfl X'
      exact ⟨t2, stp.trans a1, b1⟩
end WRP
