/-! contracts of ordinary methods -/
section ORD
variable {p : Program} {l : Launch} {e : Env} {R : Room} {s : State} {m : MethodId} {args : Array Value} {below : List Frame} {meth : Method} {c : Code} {Q : State → Prop} {cc : ByteArray} {G : EG} {mi lv nL : Nat} {ph : Bool} {r0 : PRs} {pc : Nat} {L st : List PV} {ls : Array Slot} {M : Mem} {X : PX} {H : Heap} {locs : List Loc}
def MDok (m : Nat) : Bool := plainName (yN m).cls && decide (cn (ownM m) = (yN m).cls) && Nat.ble 11 (hgM m) && (Nat.beq (rgM m) 0 || Nat.ble 51 (hgM m)) && (alM m || (Nat.beq (mcM m) 0 && Nat.beq (msM m) 0))
theorem nar_i {v : Int32} : narrow .int (.int v) = .int v := rfl
theorem nar_b {v : Int32} (h : rOK 1 v = true) : narrow .boolean (.int v) = .int v := (rok_b h).1
theorem nar_c {v : Int32} (h : rOK 2 v = true) : narrow .char (.int v) = .int v := by
  have h : decide ((v.toUInt32 % 65536).toInt32 = v) = true := h
  have h := of_decide_eq_true h
  have e : v.toUInt32.toUInt16.toUInt32 = v.toUInt32 % 65536 := by
    apply UInt32.toNat_inj.mp
    simp
  show Value.int v.toUInt32.toUInt16.toUInt32.toInt32 = .int v
  rw [e, h]
theorem nar_y {v : Int32} (h : rOK 3 v = true) : narrow .byte (.int v) = .int v := by
  have h : decide (v.toInt8.toInt32 = v) = true := h
  have h := of_decide_eq_true h
  show Value.int v.toInt8.toInt32 = .int v
  rw [h]
/-- what a frame's end needs of the code, at each of its ends -/
theorem ends_ord {ph0 : Bool} (hx : p.tables.exec = Jvm.exec) (hb : c.code = cc) (hr : meth.sig.returnType = rtN mi) (hlocks : meth.locks = false) (hal : alM mi = false → mcM mi = 0 ∧ msM mi = 0) (hBr : alM mi = true → r0.2.2.2.2.2.1 ≤ mcM mi ∧ r0.2.2.2.2.2.2.1 ≤ msM mi) : ENDS p l e R s m args below meth c (MQ below (Qc9 G ph0 r0) args s (mcM mi) (msM mi) (gA G)) cc G mi nL ph0 r0 := by
  intro ph pc o L M X H locs ls hd h0 fi hph
  subst h0
  have hwid : ∀ g : JFrame, W p l e R s m args below meth c H locs (mcM mi) (msM mi) (MQ below (Qc9 G ph0 (.inl o, M, X)) args s (mcM mi) (msM mi) (gA G)) g → W p l e R s m args below meth c H locs (cX mi X) (sX mi X) (MQ below (Qc9 G ph0 (.inl o, M, X)) args s (mcM mi) (msM mi) (gA G)) g := by
    intro g hg
    refine W.widen ?_ ?_ hg
    · unfold cX
      cases ha : alM mi with
      | true => exact (hBr ha).1
      | false => exact Nat.zero_le _
    · unfold sX
      cases ha : alM mi with
      | true => exact (hBr ha).2
      | false => exact Nat.zero_le _
  have hq : ∀ t : State, t.heap = H → s.WarmedH t.vm → Qc9 G ph0 (.inl o, M, X) args s (.returned (o.map (tvG G))) t := fun t ht _ => ⟨⟨⟨o, rfl, rfl⟩, by rw [ht]; exact fi.1, fun q => fi.2.1 (hph q)⟩, fi.2.2.1.F ht⟩
  refine hwid _ ?_
  rcases hd with ⟨hd, h1, x, rfl, hx9⟩ | ⟨hd, h1, x, rfl⟩ | ⟨hd, h1, rfl⟩
  · unfold ckI at h1
    dsimp only at h1
    rw [Bool.and_eq_true] at h1
    have h2 := h1.2
    cases hrt : rtN mi with
    | none => rw [hrt] at h2; cases h2
    | some ty =>
      rw [hrt] at h2 hr
      cases ty <;> first | cases h2 | skip
      · have h2 := nbeq_t h2
        rw [h2] at hx9
        exact W.zret hx hb hr (nar_y hx9) hq fi.2.2.1.2.2 hd
      · have h2 := nbeq_t h2
        rw [h2] at hx9
        exact W.zret hx hb hr (nar_c hx9) hq fi.2.2.1.2.2 hd
      · exact W.zret hx hb hr nar_i hq fi.2.2.1.2.2 hd
      · have h2 := nbeq_t h2
        rw [h2] at hx9
        exact W.zret hx hb hr (nar_b hx9) hq fi.2.2.1.2.2 hd
  · unfold ckI at h1
    dsimp only at h1
    rw [Bool.and_eq_true] at h1
    have h2 := h1.2
    cases hrt : rtN mi with
    | none => rw [hrt] at h2; cases h2
    | some ty =>
      rw [hrt] at h2 hr
      cases ty <;> first | cases h2 | skip
      exact W.lret hx hb hr hq fi.2.2.1.2.2 hd
  · unfold ckI at h1
    dsimp only at h1
    rw [Bool.and_eq_true] at h1
    have h2 := h1.2
    cases hrt : rtN mi with
    | some ty => rw [hrt] at h2; cases h2
    | none =>
      rw [hrt] at hr
      exact W.vret hx hb hr hq fi.2.2.1.2.2 hd

theorem room_sp (ws : List Cond) (rm : Room) : (headSpec ws rm).room = rm := rfl
/-- an ordinary method's contract, from those below it -/
theorem con_ord {m0 : Nat} (hmd : MDok m0 = true) (hcd : cdN m0 = .code (yN m0) (byN m0) (mlN m0) (rtN m0)) (hgw : ∀ w ∈ gwT, goodWord w = true) (hck : (pt m0).all (fun e => ckE (byN m0) m0 e) = true) (hPool : POOL (ownM m0)) (hAI : Cond.arrayClass .int ∈ gwT) (hAL : Cond.arrayClass .long ∈ gwT) (hCT : ∀ t, 1 ≤ t → t ≤ 13 → CTok t) (hlv : lv ≤ 40 ∧ (rgM m0 = 0 → lv = 0))
    (hIH : ∀ m' lv', mkM m' = 0 → rankM m' lv' + 1 ≤ rankM m0 lv → lv' ≤ 40 → (rgM m' = 0 → lv' = 0) → CON l G m' lv') : CON l G m0 lv := by
  intro ph0 as M X q hev hin
  unfold MDok at hmd
  rw [Bool.and_eq_true, Bool.and_eq_true, Bool.and_eq_true, Bool.and_eq_true, decide_eq_true_eq] at hmd
  obtain ⟨⟨⟨⟨d1, d2⟩, d3⟩, d4⟩, d5⟩ := hmd
  have d3 := Nat.le_of_ble_eq_true d3
  have hrk : 11 ≤ rankM m0 lv := by
    unfold rankM
    rw [Bool.or_eq_true] at d4
    rcases d4 with d4 | d4
    · rw [hlv.2 (nbeq_t d4)]; exact d3
    · have := Nat.le_of_ble_eq_true d4
      omega
  have hal : alM m0 = false → mcM m0 = 0 ∧ msM m0 = 0 := fun ha => by
    rw [ha, Bool.false_or, Bool.and_eq_true] at d5
    exact ⟨nbeq_t d5.1, nbeq_t d5.2⟩
  obtain ⟨n, hn⟩ := run_ev hev
  have hrun := hn n (Nat.le_refl _)
  obtain ⟨i1, i2, i3, i4⟩ := hin
  have hBr : alM m0 = true → q.2.2.2.2.2.1 ≤ mcM m0 ∧ q.2.2.2.2.2.2.1 ≤ msM m0 := fun ha => by
    refine (run_P n q hrun).2.2.1 ha ?_
    rw [(i3 ha).1, (i3 ha).2]
    exact ⟨Nat.zero_le _, Nat.zero_le _⟩
  have hcX : cX m0 X = 0 := by
    unfold cX
    cases ha : alM m0 with
    | true => exact (i3 ha).1
    | false => rfl
  have hsX : sX m0 X = 0 := by
    unfold sX
    cases ha : alM m0 with
    | true => exact (i3 ha).2
    | false => rfl
  refine Met.ofW (cc := byN m0) (maxL := mlN m0) (ret := rtN m0) d1 (by rw [hcd]) ?_
  intro p e s m args below meth c s₁ B hml hv
  obtain ⟨rfl, hSI, hHR, hset⟩ := hv
  have hx := B.exec
  have hb := B.bytes
  have hr := B.returns
  have hts0 := atoms_spec (ws := cdN m0 :: gwT) B.pre
  have hts : ∀ w ∈ gwT, w.before (as.map (tvG G)).toArray s = true := fun w hw => hts0 w (List.mem_cons_of_mem _ hw)
  have hown : s.vm.findClass (cn (ownM m0)) = some m.cls := by rw [d2]; exact findClass_of_methodNamed B.named
  have hlocks := B.notSynchronized
  have hnm : meth.name = (yN m0).name := (name_of_methodNamed B.named B.method).1
  obtain ⟨ls, he, hlr⟩ := entry_lr (n := mlN m0) i4 i1 i2 m
  rw [he]
  have fi : FI G s s.heap [] ph0 (mlN m0) M X ls (padl (mlN m0) (expd as)) [] := ⟨hHR, hset, va_S.rf, hlr, fun i => by rw [nth_padl]; exact okV_expd as i fun v hv => (i1 v hv).1, fun v hv => (by cases hv), i4⟩
  have hF : CF l (headSpec (cdN m0 :: gwT) (rmM m0 lv)).room s m (as.map (tvG G)).toArray c G m0 lv (mlN m0) := ⟨hml, hown, hts, hSI, Nat.le_refl _, Nat.le_refl _, Nat.le_refl _, Nat.le_refl _, hlv, hCT, hIH⟩
  have hfr : 1 ≤ (headSpec (cdN m0 :: gwT) (rmM m0 lv)).room.frames := by show 1 ≤ rankM m0 lv; omega
  have hlo : 8 + (nativeFrameWords "java/lang/System" "arraycopy" 5 + 11) ≤ (headSpec (cdN m0 :: gwT) (rmM m0 lv)).room.locals := by
    show _ ≤ 60 * rankM m0 lv
    have : 8 + (nativeFrameWords "java/lang/System" "arraycopy" 5 + 11) ≤ 660 := by decide +kernel
    omega
  have hlo2 : 21 ≤ (headSpec (cdN m0 :: gwT) (rmM m0 lv)).room.locals := by show 21 ≤ 60 * rankM m0 lv; omega
  have hE := ends_ord (G := G) (mi := m0) (nL := mlN m0) (ph0 := ph0) (r0 := q) (p := p) (l := l) (e := e) (R := (headSpec (cdN m0 :: gwT) (rmM m0 lv)).room) (s := s) (m := m) (args := (as.map (tvG G)).toArray) (below := below) hx hb hr hlocks hal hBr
  have h9 := frame9 (ph0 := ph0) (lv := lv) (fun pc i hi => step_ck (cc := byN m0) hx hb hF hPool (fun _ => hnm) hfr hlo hlo2 hAI hAL hE (List.all_eq_true.mp hck _ (lkp_mem hi))) hBr n ph0 0 _ [] M X s.heap [] ls hrun fi (fun z => z)
  rw [hcX, hsX] at h9
  exact h9
end ORD
