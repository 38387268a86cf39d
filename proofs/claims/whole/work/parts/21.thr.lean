/-! the methods that throw -/
section THR
variable {p : Program} {l : Launch} {e : Env} {R : Room} {s : State} {m : MethodId} {args : Array Value} {below : List Frame} {meth : Method} {c : Code} {Qc : Array Value → State → Outcome → State → Prop} {cc : ByteArray} {G : EG} {mi lv nL : Nat} {ph : Bool} {r0 : PRs} {pc : Nat}
set_option maxRecDepth 100000
def exK (k : Nat) : Nat := bif Nat.beq k 101 then 159 else 81
def exI (k : Nat) : Nat := bif Nat.beq k 101 then 161 else 83
def exNs : List String := ["java/lang/RuntimeException", "java/lang/Exception"]
def thx1 : List Nat := [125, 746, 755, 758, 761, 763, 747, 748, 140, 141, 749, 754, 759, 775, 736, 776, 738, 777, 740, 750, 752, 742, 1037, 1038, 1039, 768, 727, 768, 769, 770, 771, 729, 771, 772, 773, 747, 731, 1036, 1028, 1029, 1030, 757, 1031, 1032, 1033, 1034, 745, 744, 1035]
def thx2 : List Nat := [125, 746, 755, 758, 761, 763, 747, 748, 140, 141, 749, 754, 759, 775, 736, 776, 738, 777, 740, 750, 752, 742, 765, 766, 767, 768, 727, 768, 769, 770, 771, 729, 771, 772, 773, 747, 731, 764, 725, 726, 733, 734, 735, 737, 739, 741, 745, 744, 743]
def spG (w : Cond) (i : Nat) : Bool := decide (lw_tbl[i]? = some w) && (goodWord w || (spW w && w.onTables))
theorem sp_in {L : List Cond} {ix : List Nat} (h : zipB spG L ix = true) (hts : ∀ w ∈ gwT, w.before args s = true) (hSI : SI G s) : ∀ w ∈ L, w.before args s = true := fun w hw => by
  obtain ⟨i, hi⟩ := zipB_in h w hw
  unfold spG at hi
  rw [Bool.and_eq_true, decide_eq_true_eq, Bool.or_eq_true, Bool.and_eq_true] at hi
  obtain ⟨h1, h2 | ⟨h2, h3⟩⟩ := hi
  · exact hts w (gw_of h1 h2)
  · exact va_Nw.use h3 (hSI.2.2.2.2.2.2.2.1 w (List.mem_of_getElem? h1) h2)
theorem tw1 : zipB spG (vx_at0 "MergeBelts" 161 "java/util/NoSuchElementException" exNs) thx1 = true := by decide +kernel
theorem tw2 : zipB spG (vx_at0 "MergeBelts" 83 "java/lang/IllegalArgumentException" exNs) thx2 = true := by decide +kernel
theorem tg1 : (Cond.classLink "MergeBelts" 159 "java/util/NoSuchElementException" :: Cond.initialized "java/util/NoSuchElementException" :: vx_at0 "MergeBelts" 161 "java/util/NoSuchElementException" exNs).all vx_ot = true := by decide +kernel
theorem tg2 : (Cond.classLink "MergeBelts" 81 "java/lang/IllegalArgumentException" :: Cond.initialized "java/lang/IllegalArgumentException" :: vx_at0 "MergeBelts" 83 "java/lang/IllegalArgumentException" exNs).all vx_ot = true := by decide +kernel
theorem ex_ns : ∀ n ∈ exNs, Bundle.fit n = true := by
  have h : exNs.all Bundle.fit = true := by decide +kernel
  exact fun n hn => List.all_eq_true.mp h n hn
theorem ex_all {k : Nat} (hk : k = 101 ∨ k = 102) (hts : ∀ w ∈ gwT, w.before args s = true) (hSI : SI G s) : Bundle.fit (exN (k - 100)) = true ∧ (Cond.classLink "MergeBelts" (exK k) (exN (k - 100))).before args s = true ∧ (Cond.initialized (exN (k - 100))).before args s = true ∧ (∀ w ∈ vx_at0 "MergeBelts" (exI k) (exN (k - 100)) exNs, w.before args s = true) ∧
    (∀ w ∈ Cond.classLink "MergeBelts" (exK k) (exN (k - 100)) :: Cond.initialized (exN (k - 100)) :: vx_at0 "MergeBelts" (exI k) (exN (k - 100)) exNs, vx_ot w = true) := by
  rcases hk with rfl | rfl
  · exact ⟨by decide +kernel, hts _ (hasW_in (i := 1027) (by decide +kernel)), hts _ (hasW_in (i := 133) (by decide +kernel)), sp_in tw1 hts hSI, fun w hw => List.all_eq_true.mp tg1 w hw⟩
  · exact ⟨by decide +kernel, hts _ (hasW_in (i := 724) (by decide +kernel)), hts _ (hasW_in (i := 128) (by decide +kernel)), sp_in tw2 hts hSI, fun w hw => List.all_eq_true.mp tg2 w hw⟩
def thE (cc : ByteArray) (mi : Nat) (e : PE) : Bool := match e.2.1 with
  | .new i => match lkp (nclP (ownM mi)) i with
    | some t => Nat.beq (ownM mi) 1 && (Nat.beq t.1 101 || Nat.beq t.1 102) && Nat.beq i (exK t.1) && decide (decode cc e.1 = .ok (.new i, 3)) && decide (decode cc (e.1 + 3) = .ok (.dup, 1)) && decide (decode cc (e.1 + 4) = .ok (.invokespecial (exI t.1), 3)) && decide (decode cc (e.1 + 7) = .ok (.athrow, 1))
    | none => false
  | _ => false
theorem step_th {ph0 : Bool} {i : Instr × Nat × Nat × Int32} (hx : p.tables.exec = Jvm.exec) (hb : c.code = cc) (hl : l.stackTraces = false) (hF : CF l R s m args c G mi lv nL) (hlocks : meth.locks = false) (hout : ∀ x ∈ c.exceptionTable.toList, False) (hfr : 5 < R.frames) (hlo : 89 ≤ R.locals)
    (hth : thE cc mi (pc, i) = true) : STEP p l e R s m args below meth c (vx_MQ below Qc (XC9 G r0) args s (mcM mi) (msM mi) (gA G)) G mi lv nL ph0 r0 pc i := by
  intro ph cl K L st M X H locs ls h hcl ih fi h0 hB
  obtain ⟨hml, hown, hts, hSI, hRc, hRs, hRf, hRl, hlv, hCT, hCON⟩ := hF
  obtain ⟨ins, len, tg, cv⟩ := i
  unfold thE at hth
  dsimp only at hth
  split at hth
  · next i hi =>
    unfold stp at h
    dsimp only at h
    obtain ⟨t, ht, h1⟩ := bind_inv h
    rw [ht] at hth
    dsimp only at hth
    simp only [Bool.and_eq_true, Bool.or_eq_true, decide_eq_true_eq] at hth
    obtain ⟨⟨⟨⟨⟨⟨ho, hk⟩, hi⟩, d0⟩, d3⟩, d4⟩, d7⟩ := hth
    have ho := nbeq_t ho
    have hi := nbeq_t hi
    have hk : t.1 = 101 ∨ t.1 = 102 := hk.elim (fun q => Or.inl (nbeq_t q)) (fun q => Or.inr (nbeq_t q))
    have hblt : Nat.blt 100 t.1 = true := Nat.ble_eq_true_of_le (by omega)
    rw [hblt, cond_true] at h1
    obtain ⟨hc, h2⟩ := bif_inv h1
    obtain ⟨⟨hc1, hc2⟩, h3⟩ := ite_inv h2
    simp only [Bool.and_eq_true] at hc
    obtain ⟨⟨hph, hal⟩, hwg⟩ := hc
    have hwg := Nat.le_of_ble_eq_true hwg
    have h3 := Option.some.inj h3
    subst h3
    obtain ⟨e1, e2, e3, e4, e5⟩ := ex_all hk hts hSI
    have hcx : cX mi X = X.2.2.2.1 := by unfold cX; rw [hal]; rfl
    have hsx : sX mi X = X.2.2.2.2.1 := by unfold sX; rw [hal]; rfl
    rw [hcx, hsx]
    have hcw := cat_wg (G := G) fi.2.2.2.2.2.2 st fi.2.2.2.2.2.1
    have hmb : cn (ownM mi) = "MergeBelts" := by rw [ho]; rfl
    rw [hmb] at hown
    subst hi
    have hS := fi.2.2.1
    refine vx_throw0 (own := "MergeBelts") (names := exNs) (ik := exK t.1) (ic := exI t.1) (cls := exN (t.1 - 100)) (A := gA G) hx hb hl hown e1 ex_ns e2 e3 e4 e5 hSI.2.2.2.2.2.2.2.2.1 hSI.2.2.2.2.2.2.2.2.2.1 hS (by rw [hml]; exact fi.2.2.2.1.2.1) d0 d3 d4 d7 (fun x hx => (hout x hx).elim) (by show 2 + 3 < _; exact hfr) ?_ (Nat.le_trans hc1 hRc) (Nat.le_trans hc2 hRs) hlocks ?_ hS.2.2 hc1 hc2
    · rw [hcw]
      show wg st + (13 * 3 + 42) ≤ _
      omega
    · intro t9 hA hz hq
      refine ⟨⟨t.1 - 100, rfl, rfl⟩, ⟨va_P.kept fi.1.1 (fun k q hk => hq _ (vx_lt fi.1.1 hk)), fun q => ?_, Nat.le_succ_of_le fi.1.2.2.1, fi.1.2.2.2⟩, fi.2.1 hph, Nat.le_trans hS.1 hz, fun q h1 h2 => ?_⟩
      · exfalso
        have h4 := fi.1.2.2.1
        have q : X.2.1 = X.2.2.1 + 1 := q
        omega
      · rw [hq q (Nat.lt_of_lt_of_le h1 hS.1)]
        exact hS.2.1 q h1 h2
  · cases hth
def okT (m : Nat) : Bool := !(Nat.beq (mkM m) 1) || (MDok m && isCd m && (pt m).all (fun e => ckE (byN m) m e || thE (byN m) m e))
theorem con_thr {m0 : Nat} (hm : mkM m0 = 1) (hok : okT m0 = true) (hl : l.stackTraces = false) : CONx l G m0 := by
  intro as M X q hev hin
  unfold okT at hok
  rw [hm] at hok
  have hok : (MDok m0 && isCd m0 && (pt m0).all (fun e => ckE (byN m0) m0 e || thE (byN m0) m0 e)) = true := hok
  rw [Bool.and_eq_true, Bool.and_eq_true] at hok
  obtain ⟨⟨hmd, hcd⟩, hck⟩ := hok
  have hcd := cd_ok hcd
  have hlt := mk_lt (m := m0) (by rw [hm]; decide)
  unfold MDok at hmd
  rw [Bool.and_eq_true, Bool.and_eq_true, Bool.and_eq_true, Bool.and_eq_true, decide_eq_true_eq] at hmd
  obtain ⟨⟨⟨⟨d1, d2⟩, d3⟩, d4⟩, d5⟩ := hmd
  have d3 := Nat.le_of_ble_eq_true d3
  have hrk : 11 ≤ rankM m0 0 := d3
  have hal : alM m0 = false → mcM m0 = 0 ∧ msM m0 = 0 := fun ha => by
    rw [ha, Bool.false_or, Bool.and_eq_true] at d5
    exact ⟨nbeq_t d5.1, nbeq_t d5.2⟩
  obtain ⟨n, hn⟩ := run_ev hev
  have hrun := hn n (Nat.le_refl _)
  obtain ⟨i1, i2, i3, i4⟩ := hin
  have hBr : alM m0 = true → q.2.2.2.2.2.1 ≤ mcM m0 ∧ q.2.2.2.2.2.2.1 ≤ msM m0 := fun ha => by
    refine (run_P n q hrun).2.2.1 ha ?_
    rw [(i3 ha).1, (i3 ha).2]
    exact ⟨Nat.zero_le _, Nat.zero_le _⟩
  have hcX : cX m0 X = 0 := by
    unfold cX
    cases ha : alM m0 with
    | true => exact (i3 ha).1
    | false => rfl
  have hsX : sX m0 X = 0 := by
    unfold sX
    cases ha : alM m0 with
    | true => exact (i3 ha).2
    | false => rfl
  refine vx_ofW (cc := byN m0) (maxL := mlN m0) (ret := rtN m0) d1 (by rw [hcd]) ?_
  intro p e s m args below meth c s₁ B hml hout hv
  obtain ⟨rfl, hSI, hHR, hset⟩ := hv
  have hx := B.exec
  have hb := B.bytes
  have hr := B.returns
  have hts0 := atoms_spec (ws := cdN m0 :: gwT) B.pre
  have hts : ∀ w ∈ gwT, w.before (as.map (tvG G)).toArray s = true := fun w hw => hts0 w (List.mem_cons_of_mem _ hw)
  have hown : s.vm.findClass (cn (ownM m0)) = some m.cls := by rw [d2]; exact findClass_of_methodNamed B.named
  have hlocks := B.notSynchronized
  have hnm : meth.name = (yN m0).name := (name_of_methodNamed B.named B.method).1
  obtain ⟨ls, he, hlr⟩ := entry_lr (n := mlN m0) i4 i1 i2 m
  rw [he]
  have fi : FI G s s.heap [] true (mlN m0) M X ls (padl (mlN m0) (expd as)) [] := ⟨hHR, hset, va_S.rf, hlr, fun i => by rw [nth_padl]; exact okV_expd as i fun v hv => (i1 v hv).1, fun v hv => (by cases hv), i4⟩
  have hF : CF l (headSpec (cdN m0 :: gwT) (rmM m0 0)).room s m (as.map (tvG G)).toArray c G m0 0 (mlN m0) := ⟨hml, hown, hts, hSI, Nat.le_refl _, Nat.le_refl _, Nat.le_refl _, Nat.le_refl _, ⟨Nat.zero_le _, fun _ => rfl⟩, ct_all, fun m' lv' h1 h2 h3 h4 => con_all _ m' lv' (Nat.le_refl _) h1 h3 h4⟩
  have hfr : 1 ≤ (headSpec (cdN m0 :: gwT) (rmM m0 0)).room.frames := by show 1 ≤ rankM m0 0; omega
  have hfr5 : 5 < (headSpec (cdN m0 :: gwT) (rmM m0 0)).room.frames := by show 5 < rankM m0 0; omega
  have hlo : 8 + (nativeFrameWords "java/lang/System" "arraycopy" 5 + 11) ≤ (headSpec (cdN m0 :: gwT) (rmM m0 0)).room.locals := by
    show _ ≤ 60 * rankM m0 0
    have : 8 + (nativeFrameWords "java/lang/System" "arraycopy" 5 + 11) ≤ 660 := by decide +kernel
    omega
  have hlo2 : 21 ≤ (headSpec (cdN m0 :: gwT) (rmM m0 0)).room.locals := by show 21 ≤ 60 * rankM m0 0; omega
  have hlo3 : 89 ≤ (headSpec (cdN m0 :: gwT) (rmM m0 0)).room.locals := by show 89 ≤ 60 * rankM m0 0; omega
  have hE0 := ends_ord (G := G) (mi := m0) (nL := mlN m0) (ph0 := true) (r0 := q) (p := p) (l := l) (e := e) (R := (headSpec (cdN m0 :: gwT) (rmM m0 0)).room) (s := s) (m := m) (args := (as.map (tvG G)).toArray) (below := below) hx hb hr hlocks hal hBr
  have hE : ENDS p l e (headSpec (cdN m0 :: gwT) (rmM m0 0)).room s m (as.map (tvG G)).toArray below meth c (vx_MQ below (Qc9 G true q) (XC9 G q) (as.map (tvG G)).toArray s (mcM m0) (msM m0) (gA G)) (byN m0) G m0 (mlN m0) true q := fun ph pc o L M X H locs ls z1 z2 z3 z4 => vx_ret (hE0 ph pc o L M X H locs ls z1 z2 z3 z4)
  have h9 := frame9 (ph0 := true) (lv := 0) (fun pc i hi => by
    have hc := List.all_eq_true.mp hck _ (lkp_mem hi)
    rw [Bool.or_eq_true] at hc
    rcases hc with hc | hc
    · exact step_ck (cc := byN m0) hx hb hF (po_all _ (own_lt m0 hlt)) (fun _ => hnm) hfr hlo hlo2 aw_i aw_l hE hc
    · exact step_th (cc := byN m0) hx hb hl hF hlocks hout hfr5 hlo3 hc) hBr n true 0 _ [] M X s.heap [] ls hrun fi (fun z => z)
  rw [hcX, hsX] at h9
  exact h9
end THR
