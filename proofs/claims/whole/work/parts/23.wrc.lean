/-! contracts of the methods that catch -/
section WRC
set_option maxRecDepth 100000
variable {p : Program} {l : Launch} {e : Env} {R : Room} {s : State} {m : MethodId} {args : Array Value} {below : List Frame} {meth : Method} {c : Code} {Q : State → Prop} {cc : ByteArray} {G : EG} {mi lv nL : Nat} {ph : Bool} {r0 : PRs} {pc : Nat}
def wrE (cc : ByteArray) (mi : Nat) (e : PE) : Bool := match e.2.1 with
  | .invokevirtual i => Nat.beq e.2.2.1 3 && decide (decode cc e.1 = .ok (.invokevirtual i, 3)) && (match lkp (mthP (ownM mi)) i with
    | some w => Nat.beq w.1 0 && ckC mi i w && Nat.beq (mkM w.2.1) 1 && Nat.beq (rgM w.2.1) 0 && ([1, 2].all fun x => match hdF hdT mi x with
      | some v => wrR cc (mlN mi) e.1 x v (hhN mi)
      | none => true)
    | none => false)
  | _ => false
theorem hd_12 : ∀ {T : List (Nat × Nat × Int32)}, (T.all fun q => Nat.beq q.2.1 1 || Nat.beq q.2.1 2) = true → ∀ (m x : Nat) (v : Int32), hdF T m x = some v → x = 1 ∨ x = 2
  | [], _, _, _, _, h => by cases h
  | (a, b, c) :: T, hT, m, x, v, h => by
    rw [List.all_cons, Bool.and_eq_true, Bool.or_eq_true] at hT
    unfold hdF at h
    cases hb : (Nat.beq a m && Nat.beq b x) with
    | true =>
      rw [Bool.and_eq_true] at hb
      have e2 := nbeq_t hb.2
      rcases hT.1 with h1 | h1
      · exact Or.inl (by rw [← e2]; exact nbeq_t h1)
      · exact Or.inr (by rw [← e2]; exact nbeq_t h1)
    | false =>
      rw [hb, cond_false] at h
      exact hd_12 hT.2 m x v h
theorem hd_ok : ∀ (m x : Nat) (v : Int32), hdF hdT m x = some v → x = 1 ∨ x = 2 := hd_12 (by decide +kernel)
theorem wr_in {mi : Nat} {f : Nat → Int32 → Bool} (h : ([1, 2].all fun x => match hdF hdT mi x with | some v => f x v | none => true) = true) : ∀ x, x = 1 ∨ x = 2 → ∀ v, hdF hdT mi x = some v → f x v = true := by
  intro x hx v hv
  have h1 := List.all_eq_true.mp h x (by rcases hx with rfl | rfl <;> simp)
  simp only [hv] at h1
  exact h1
set_option maxHeartbeats 2000000 in
theorem step_wr {i : Instr × Nat × Nat × Int32} (hx : p.tables.exec = Jvm.exec) (hb : c.code = cc) (hF : CF l R s m args c G mi lv (mlN mi)) (hal : alM mi = true) (hCN : ∀ m', mkM m' = 1 → CONx l G m') (ht : c.exceptionTable.toList = tableOf (hhN mi)) (hmb : cn (ownM mi) = "MergeBeltsLaw") (hNc : NC s)
    (hE : ENDS p l e R s m args below meth c Q cc G mi (mlN mi) true r0) (hck9 : ckI mi (0, .ireturn, 1, 0, 0) = true) (hrk : rkM mi = 0) (hth : wrE cc mi (pc, i) = true) : STEP p l e R s m args below meth c Q G mi lv (mlN mi) true r0 pc i := by
  intro ph cl K L st M X H locs ls h hcl ih fi h0 hB
  have hph := h0 rfl
  subst hph
  have hF0 := hF
  obtain ⟨hml, hown, hts, hSI, hRc, hRs, hRf, hRl, hlv, hCT, hCON⟩ := hF
  obtain ⟨ins, len, tg, cv⟩ := i
  unfold wrE at hth
  dsimp only at hth
  split at hth
  · next _ i =>
    rw [Bool.and_eq_true, Bool.and_eq_true, decide_eq_true_eq] at hth
    obtain ⟨⟨hlen, hd⟩, hth⟩ := hth
    have hlen := nbeq_t hlen
    subst hlen
    unfold stp at h
    dsimp only at h
    obtain ⟨w, hw, h1⟩ := bind_inv h
    rw [hw] at hth
    dsimp only at hth
    rw [Bool.and_eq_true, Bool.and_eq_true, Bool.and_eq_true, Bool.and_eq_true] at hth
    obtain ⟨⟨⟨⟨hk1, hck⟩, hmk⟩, hrg⟩, hwr⟩ := hth
    have hk1 := nbeq_t hk1
    have hmk := nbeq_t hmk
    have hrg := nbeq_t hrg
    unfold ckC at hck
    cases hz : lkp (mwP (ownM mi)) i with
    | none => rw [hz] at hck; cases hck
    | some z =>
    rw [hz] at hck
    dsimp only at hck
    obtain ⟨q, hq, h4⟩ := bind_inv h1
    obtain ⟨as, a1, a2, a3⟩ := popn_inv _ _ _ _ hq
    obtain ⟨q1, st2⟩ := q
    rw [List.append_nil] at a3
    dsimp only at a2 a3 h4
    subst a3
    obtain ⟨t, a, r, rfl, h5⟩ := ur1_inv h4
    subst a2
    obtain ⟨hc, h6⟩ := bif_inv h5
    simp only [Bool.and_eq_true] at hc
    have htt := nbeq_t hc.2
    subst htt
    rw [hk1] at hck
    have hck : (mdOK w z.2.2.2 && rkOK mi w.2.1 && (hasW z.1 (.methodLink (cn (ownM mi)) i (yN w.2.1)) && hasW z.2.1 (.instanceMethod (yN w.2.1)) && hasW z.2.2.1 (.selects (yN w.2.1).cls (yN w.2.1) (yN w.2.1)) && ((Nat.beq (ownM w.2.1) 16 && decide ((yN w.2.1).cls = "java/lang/String")) || (Nat.ble 1 (ownM w.2.1) && Nat.ble (ownM w.2.1) 13 && decide ((clT (ownM w.2.1)).1 = (yN w.2.1).cls))))) = true := hck
    rw [Bool.and_eq_true, Bool.and_eq_true, Bool.and_eq_true, Bool.and_eq_true, Bool.and_eq_true] at hck
    obtain ⟨⟨w1, w2⟩, ⟨⟨w3, w4⟩, w5⟩, w6⟩ := hck
    obtain ⟨g1, g2, lv', X9, q9, g3, g4, g5, g6, g7, g8, g9, g10, g11, g12⟩ := kCall_inv w1 w2 hlv h6
    obtain ⟨ev9, px9⟩ := hcl _ _ _ _ _ _ g3
    have hlv0 := g10 hrg
    subst hlv0
    have fr := fi_rev fi
    have fr2 : FI G s H locs true (mlN mi) M X ls L ((pR (otg (ownM w.2.1)) a :: q1) ++ r) := fi_st fr fun v hv => fr.2.2.2.2.2.1 v (by
      rcases List.mem_append.mp hv with h | h
      · rcases List.mem_cons.mp h with rfl | h
        · exact List.mem_append_right _ List.mem_cons_self
        · exact List.mem_append_left _ h
      · exact List.mem_append_right _ (List.mem_cons_of_mem _ h))
    have frr : FI G s H locs true (mlN mi) M X ls L r := fi_st fr fun v hv => fr.2.2.2.2.2.1 v (List.mem_append_right _ (List.mem_cons_of_mem _ hv))
    have frc : FI G s H locs true (mlN mi) M X ls L (pR (otg (ownM w.2.1)) a :: r) := fi_st fr fun v hv => fr.2.2.2.2.2.1 v (List.mem_append_right _ hv)
    obtain ⟨b, hb1, hb2⟩ := recv9 hSI hCT frc (fi_ok frc).2 w6
    have hM := hCN w.2.1 hmk (pR (otg (ownM w.2.1)) a :: q1) M X9 q9 ev9 (in9 fr2 g2 g5 g7)
    have hwg := cat_wg (G := G) frr.2.2.2.2.2.2 r frr.2.2.2.2.2.1
    obtain ⟨-, -, -, -, m5, -⟩ := md_inv w1
    have hown2 := hown
    rw [hmb] at hown2
    refine call9x (hh := hhN mi) (m9 := w.2.1) (X9 := X9) hx hb (vx_runV (b := b) (C := (yN w.2.1).cls) (As := q1.map (tvG G)) (rest := r.map (tvG G)) ⟨hx, hb, hml, hown, hts⟩ hM ⟨cb_of w1 g8 hRf hRl hts (hasW_in w3), hts _ (hasW_in w4), hts _ (hasW_in w5)⟩ ⟨Pc9_blind, hb2, fun U hU hW => ?_⟩ rfl (by rw [List.length_map]; exact a1) fr.2.2.2.1.2.1 ?_ (by show 2 * 0 + _ ≤ 8; rw [hwg]; omega) hd (room_hf hF0 hB g11 g12 m5)) frr ih g4 px9 g5 hal hown2 ht (wr_in (f := fun x v => wrR cc (mlN mi) pc x v (hhN mi)) hwr) (hd_ok mi) hts hSI hNc hE hck9 hrk
    · have h9 := pc9_at (as := pR (otg (ownM w.2.1)) a :: q1) hSI frr g5 (g6 _ _ frr.1) hU hW
      rw [List.map_cons, hb1] at h9
      exact h9
    · show (q1.reverse ++ pR (otg (ownM w.2.1)) a :: r).map (tvG G) = _
      rw [List.map_append, List.map_reverse, List.map_cons, hb1]
  · cases hth
def okW (m : Nat) : Bool := !(Nat.beq (mkM m) 2) || (MDok m && isCw m && ckI m (0, .ireturn, 1, 0, 0) && Nat.beq (rkM m) 0 && Nat.beq (rgM m) 0 && alM m && decide (cn (ownM m) = "MergeBeltsLaw") && (pt m).all (fun e => ckE (byN m) m e || wrE (byN m) m e))
def PcW (G : EG) (as : List PV) (M : Mem) (X : PX) : Array Value → State → Prop := va_Pc (as.map (tvG G)) (fun U => (SI G U ∧ HR G M X U.heap ∧ (true = true → setA X.2.1 M = true)) ∧ NC U)
theorem PcW_blind {as : List PV} {M : Mem} {X : PX} : FrameBlind (PcW G as M X) := by
  intro a U g mk h
  obtain ⟨h0, ⟨h1, h2, h3⟩, h4⟩ := h
  exact ⟨h0, ⟨SI_move h1 (va_S.rf (A := gA G)) rfl (State.WarmedH.refl U), h2, h3⟩, h4⟩
def CONw (l : Launch) (G : EG) (m : Nat) : Prop := ∀ (as : List PV) (M : Mem) (X : PX) (q : PRs), evc true m 0 (padl (mlN m) (expd as)) M X = some q → IN9 G m as X → Met l (yN m) (cdN m :: gwT) (rmM m 0) (PcW G as M X) (Qc9 G true q) (mcM m) (msM m) (gA G)
set_option maxHeartbeats 2000000 in
theorem con_wr {m0 : Nat} (hm : mkM m0 = 2) (hok : okW m0 = true) (hCN : ∀ m', mkM m' = 1 → CONx l G m') : CONw l G m0 := by
  intro as M X q hev hin
  unfold okW at hok
  rw [hm] at hok
  have hok : (MDok m0 && isCw m0 && ckI m0 (0, .ireturn, 1, 0, 0) && Nat.beq (rkM m0) 0 && Nat.beq (rgM m0) 0 && alM m0 && decide (cn (ownM m0) = "MergeBeltsLaw") && (pt m0).all (fun e => ckE (byN m0) m0 e || wrE (byN m0) m0 e)) = true := hok
  rw [Bool.and_eq_true, Bool.and_eq_true, Bool.and_eq_true, Bool.and_eq_true, Bool.and_eq_true, Bool.and_eq_true, Bool.and_eq_true, decide_eq_true_eq] at hok
  obtain ⟨⟨⟨⟨⟨⟨⟨hmd, hcd⟩, hck9⟩, hrk0⟩, hrg⟩, hal0⟩, hmb⟩, hck⟩ := hok
  have hrk0 := nbeq_t hrk0
  have hcw := cw_gw hcd
  have hcd := cw_ok hcd
  have hlt := mk_lt (m := m0) (by rw [hm]; decide)
  unfold MDok at hmd
  rw [Bool.and_eq_true, Bool.and_eq_true, Bool.and_eq_true, Bool.and_eq_true, decide_eq_true_eq] at hmd
  obtain ⟨⟨⟨⟨d1, d2⟩, d3⟩, d4⟩, d5⟩ := hmd
  have d3 := Nat.le_of_ble_eq_true d3
  have hrk : 11 ≤ rankM m0 0 := d3
  have hal : alM m0 = false → mcM m0 = 0 ∧ msM m0 = 0 := fun ha => by
    rw [ha, Bool.false_or, Bool.and_eq_true] at d5
    exact ⟨nbeq_t d5.1, nbeq_t d5.2⟩
  obtain ⟨n, hn⟩ := run_ev hev
  have hrun := hn n (Nat.le_refl _)
  obtain ⟨i1, i2, i3, i4⟩ := hin
  have hBr : alM m0 = true → q.2.2.2.2.2.1 ≤ mcM m0 ∧ q.2.2.2.2.2.2.1 ≤ msM m0 := fun ha => by
    refine (run_P n q hrun).2.2.1 ha ?_
    rw [(i3 ha).1, (i3 ha).2]
    exact ⟨Nat.zero_le _, Nat.zero_le _⟩
  have hcX : cX m0 X = 0 := by
    unfold cX
    cases ha : alM m0 with
    | true => exact (i3 ha).1
    | false => rfl
  have hsX : sX m0 X = 0 := by
    unfold sX
    cases ha : alM m0 with
    | true => exact (i3 ha).2
    | false => rfl
  refine met_ofWH (cc := byN m0) (maxL := mlN m0) (ret := rtN m0) (hh := hhN m0) d1 (by rw [hcd]) ?_
  intro p e s m args below meth c s₁ B hml hv
  obtain ⟨rfl, ⟨hSI, hHR, hset⟩, hNc⟩ := hv
  have hx := B.exec
  have hb := B.bytes
  have hr := B.returns
  have hts0 := atoms_spec (ws := cdN m0 :: gwT) B.pre
  have hts : ∀ w ∈ gwT, w.before (as.map (tvG G)).toArray s = true := fun w hw => hts0 w (List.mem_cons_of_mem _ hw)
  have htab := vx_table (x := yN m0) B (hts _ hcw)
  have hown : s.vm.findClass (cn (ownM m0)) = some m.cls := by rw [d2]; exact findClass_of_methodNamed B.named
  have hlocks := B.notSynchronized
  have hnm : meth.name = (yN m0).name := (name_of_methodNamed B.named B.method).1
  obtain ⟨ls, he, hlr⟩ := entry_lr (n := mlN m0) i4 i1 i2 m
  rw [he]
  have fi : FI G s s.heap [] true (mlN m0) M X ls (padl (mlN m0) (expd as)) [] := ⟨hHR, hset, va_S.rf, hlr, fun i => by rw [nth_padl]; exact okV_expd as i fun v hv => (i1 v hv).1, fun v hv => (by cases hv), i4⟩
  have hF : CF l (headSpec (cdN m0 :: gwT) (rmM m0 0)).room s m (as.map (tvG G)).toArray c G m0 0 (mlN m0) := ⟨hml, hown, hts, hSI, Nat.le_refl _, Nat.le_refl _, Nat.le_refl _, Nat.le_refl _, ⟨Nat.zero_le _, fun _ => rfl⟩, ct_all, fun m' lv' h1 h2 h3 h4 => con_all _ m' lv' (Nat.le_refl _) h1 h3 h4⟩
  have hfr : 1 ≤ (headSpec (cdN m0 :: gwT) (rmM m0 0)).room.frames := by show 1 ≤ rankM m0 0; omega
  have hlo : 8 + (nativeFrameWords "java/lang/System" "arraycopy" 5 + 11) ≤ (headSpec (cdN m0 :: gwT) (rmM m0 0)).room.locals := by
    show _ ≤ 60 * rankM m0 0
    have : 8 + (nativeFrameWords "java/lang/System" "arraycopy" 5 + 11) ≤ 660 := by decide +kernel
    omega
  have hlo2 : 21 ≤ (headSpec (cdN m0 :: gwT) (rmM m0 0)).room.locals := by show 21 ≤ 60 * rankM m0 0; omega
  have hE := ends_ord (G := G) (mi := m0) (nL := mlN m0) (ph0 := true) (r0 := q) (p := p) (l := l) (e := e) (R := (headSpec (cdN m0 :: gwT) (rmM m0 0)).room) (s := s) (m := m) (args := (as.map (tvG G)).toArray) (below := below) hx hb hr hlocks hal hBr
  have h9 := frame9 (ph0 := true) (lv := 0) (fun pc i hi => by
    have hc := List.all_eq_true.mp hck _ (lkp_mem hi)
    rw [Bool.or_eq_true] at hc
    rcases hc with hc | hc
    · exact step_ck (cc := byN m0) hx hb hF (po_all _ (own_lt m0 hlt)) (fun _ => hnm) hfr hlo hlo2 aw_i aw_l hE hc
    · exact step_wr (cc := byN m0) hx hb hF hal0 hCN htab hmb hNc hE hck9 hrk0 hc) hBr n true 0 _ [] M X s.heap [] ls hrun fi (fun z => z)
  rw [hcX, hsX] at h9
  exact h9
end WRC
