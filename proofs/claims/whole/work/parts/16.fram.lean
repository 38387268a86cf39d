/-! a frame, instruction by instruction -/
section FRAM
variable {p : Program} {l : Launch} {e : Env} {R : Room} {s : State} {m : MethodId} {args : Array Value} {below : List Frame} {meth : Method} {c : Code} {Q : State → Prop} {cc : ByteArray} {G : EG} {mi lv nL : Nat} {ph : Bool} {cl : Nat → Nat → List PV → Mem → PX → Option PRs} {K : KT} {r0 : PRs} {pc tg : Nat} {cv : Int32} {L st : List PV} {ls : Array Slot} {M : Mem} {X : PX} {H : Heap} {locs : List Loc}
def anW : Nat := 527
def nlC (mi i : Nat) : Bool := match lkp (cstP (ownM mi)) i with
  | some (.inr (.inl _)) => false
  | _ => true
def yLC (mi i : Nat) : Bool := match lkp (cstP (ownM mi)) i with
  | some (.inr (.inl _)) => true
  | some _ => false
  | none => true
def pfC (mi i : Nat) : Bool := match lkp (fldP (ownM mi)) i with
  | some f => !(Nat.beq f.2.2.1 2) || (decide ((yN mi).name = "<init>") && decide ((clT f.1).1 = cn (ownM mi)))
  | none => true
def nwC (mi i : Nat) : Bool := match lkp (nclP (ownM mi)) i with
  | some t => Nat.ble t.1 100
  | none => true
def swC (mi pc : Nat) (f : List (Int32 × Nat) → Bool) : Bool := match lkp swT mi with
  | some t => !(Nat.beq t.1 pc) || f t.2
  | none => true
def ivC (mi i : Nat) (f : Nat → Bool) : Bool := match lkp (mthP (ownM mi)) i with
  | some w => ckC mi i w && (!(f w.1) || Nat.beq (mkM w.2.1) 0)
  | none => true
/-- what is looked at for each instruction -/
def ckI (mi : Nat) (e : PE) : Bool := match e.2.1 with
  | .iconst n => Nat.beq e.2.2.1 1 && decide (Int32.ofInt n = e.2.2.2.2)
  | .bipush n => Nat.beq e.2.2.1 2 && decide ((Int8.ofInt n).toInt32 = e.2.2.2.2)
  | .sipush n => Nat.beq e.2.2.1 3 && decide ((Int16.ofInt n).toInt32 = e.2.2.2.2)
  | .lconst _ => Nat.beq e.2.2.1 1
  | .iload_n _ => Nat.beq e.2.2.1 1
  | .iload _ => Nat.beq e.2.2.1 2
  | .istore_n _ => Nat.beq e.2.2.1 1
  | .istore _ => Nat.beq e.2.2.1 2
  | .lload_n _ => Nat.beq e.2.2.1 1
  | .lload _ => Nat.beq e.2.2.1 2
  | .lstore_n _ => Nat.beq e.2.2.1 1
  | .lstore _ => Nat.beq e.2.2.1 2
  | .aload_n _ => Nat.beq e.2.2.1 1
  | .aload _ => Nat.beq e.2.2.1 2
  | .astore_n _ => Nat.beq e.2.2.1 1
  | .astore _ => Nat.beq e.2.2.1 2
  | .iinc _ n => Nat.beq e.2.2.1 3 && decide (Int32.ofInt n = e.2.2.2.2)
  | .iadd => Nat.beq e.2.2.1 1
  | .isub => Nat.beq e.2.2.1 1
  | .imul => Nat.beq e.2.2.1 1
  | .iand => Nat.beq e.2.2.1 1
  | .ior => Nat.beq e.2.2.1 1
  | .ishl => Nat.beq e.2.2.1 1
  | .ishr => Nat.beq e.2.2.1 1
  | .irem => Nat.beq e.2.2.1 1
  | .ineg => Nat.beq e.2.2.1 1
  | .i2c => Nat.beq e.2.2.1 1
  | .i2l => Nat.beq e.2.2.1 1
  | .ladd => Nat.beq e.2.2.1 1
  | .ldiv => Nat.beq e.2.2.1 1
  | .lrem => Nat.beq e.2.2.1 1
  | .lcmp => Nat.beq e.2.2.1 1
  | .dup => Nat.beq e.2.2.1 1
  | .pop => Nat.beq e.2.2.1 1
  | .dup2 => Nat.beq e.2.2.1 1
  | .goto off => Nat.beq e.2.2.1 3 && decide ((e.1 : Int) + off = (e.2.2.2.1 : Int))
  | .ifCond _ off => Nat.beq e.2.2.1 3 && decide ((e.1 : Int) + off = (e.2.2.2.1 : Int))
  | .if_icmp _ off => Nat.beq e.2.2.1 3 && decide ((e.1 : Int) + off = (e.2.2.2.1 : Int))
  | .ifnonnull off => Nat.beq e.2.2.1 3 && decide ((e.1 : Int) + off = (e.2.2.2.1 : Int))
  | .ifnull _ => Nat.beq e.2.2.1 3
  | .ldc i => Nat.beq e.2.2.1 2 && nlC mi i
  | .ldc_w i => Nat.beq e.2.2.1 3 && nlC mi i
  | .ldc2_w i => Nat.beq e.2.2.1 3 && yLC mi i
  | .getstatic _ => Nat.beq e.2.2.1 3
  | .getfield _ => Nat.beq e.2.2.1 3
  | .putfield i => Nat.beq e.2.2.1 3 && pfC mi i
  | .iaload => Nat.beq e.2.2.1 1
  | .baload => Nat.beq e.2.2.1 1
  | .iastore => Nat.beq e.2.2.1 1
  | .laload => Nat.beq e.2.2.1 1
  | .lastore => Nat.beq e.2.2.1 1
  | .aaload => Nat.beq e.2.2.1 1
  | .aastore => Nat.beq e.2.2.1 1
  | .arraylength => Nat.beq e.2.2.1 1
  | .new i => Nat.beq e.2.2.1 3 && nwC mi i
  | .newarray t => Nat.beq e.2.2.1 2
  | .anewarray i => Nat.beq e.2.2.1 3 && hasW anW (.classLink (cn (ownM mi)) i "MergeBelts$State")
  | .tableswitch d lo hi offs => swC mi e.1 (fun T => tsB e.1 e.2.2.2.1 d lo hi offs T)
  | .lookupswitch d ps => swC mi e.1 (fun T => lsB e.1 e.2.2.2.1 d ps T)
  | .ireturn => Nat.beq e.2.2.1 1 && (match rtN mi with | some .int => Nat.beq (rkM mi) 0 | some .boolean => Nat.beq (rkM mi) 1 | some .char => Nat.beq (rkM mi) 2 | some .byte => Nat.beq (rkM mi) 3 | _ => false)
  | .lreturn => Nat.beq e.2.2.1 1 && (match rtN mi with | some .long => true | _ => false)
  | .return_ => Nat.beq e.2.2.1 1 && (match rtN mi with | none => true | _ => false)
  | .invokevirtual i => Nat.beq e.2.2.1 3 && ivC mi i (fun _ => true)
  | .invokespecial i => Nat.beq e.2.2.1 3 && ivC mi i (fun k => Nat.blt 4 k)
  | .invokestatic i => Nat.beq e.2.2.1 3 && ivC mi i (fun k => Nat.beq k 1)
  | _ => true
def ckE (cc : ByteArray) (mi : Nat) (e : PE) : Bool := decide (decode cc e.1 = .ok (e.2.1, e.2.2.1)) && ckI mi e
theorem nlC_ok {i : Nat} (h : nlC mi i = true) : ∀ v, lkp (cstP (ownM mi)) i = some v → ∀ x, v ≠ pL x := by
  intro v hv x q
  subst q
  unfold nlC at h
  rw [hv] at h
  cases h
theorem yLC_ok {i : Nat} (h : yLC mi i = true) : ∀ v, lkp (cstP (ownM mi)) i = some v → ∃ x, v = pL x := by
  intro v hv
  unfold yLC at h
  rw [hv] at h
  rcases v with x | x | x
  · cases h
  · exact ⟨x, rfl⟩
  · cases h
theorem pfC_ok {i : Nat} (h : pfC mi i = true) : ∀ f, lkp (fldP (ownM mi)) i = some f → f.2.2.1 = 2 → (yN mi).name = "<init>" ∧ (clT f.1).1 = cn (ownM mi) := by
  intro f hf h2
  unfold pfC at h
  rw [hf] at h
  dsimp only at h
  rw [h2] at h
  simpa using h
theorem nwC_ok {i : Nat} (h : nwC mi i = true) : ∀ t, lkp (nclP (ownM mi)) i = some t → t.1 ≤ 100 := by
  intro t ht
  unfold nwC at h
  rw [ht] at h
  exact Nat.le_of_ble_eq_true h
theorem swC_ok {f : List (Int32 × Nat) → Bool} (h : swC mi pc f = true) : ∀ t, lkp swT mi = some t → t.1 = pc → f t.2 = true := by
  intro t ht hp
  unfold swC at h
  rw [ht] at h
  dsimp only at h
  rw [hp, Nat.beq_refl] at h
  exact h
theorem ivC_ok {i : Nat} {f : Nat → Bool} (h : ivC mi i f = true) : ∀ w, lkp (mthP (ownM mi)) i = some w → ckC mi i w = true ∧ (f w.1 = true → mkM w.2.1 = 0) := by
  intro w hw
  unfold ivC at h
  rw [hw] at h
  simp only [Bool.and_eq_true, Bool.or_eq_true] at h
  refine ⟨h.1, fun q => ?_⟩
  rcases h.2 with q2 | q2
  · rw [q] at q2; cases q2
  · exact nbeq_t q2
/-- the pools are right -/
def POOL (o : Nat) : Prop := (∀ q ∈ fldP o, FEok o q) ∧ (∀ q ∈ cstP o, CEok o q) ∧ (∀ q ∈ nclP o, NEok o q) ∧ (∀ q ∈ gstP o, (q.2 = pI 1 ∧ Cond.fieldLink (cn o) q.1 "java/lang/String" "COMPACT_STRINGS" "Z" ∈ gwT) ∨ (q.2 = pR 20 0 ∧ Cond.fieldLink (cn o) q.1 "jdk/internal/util/Preconditions" "SIOOBE_FORMATTER" sioD ∈ gwT)) ∧ o < 19
/-- a frame's end -/
def ENDS (p : Program) (l : Launch) (e : Env) (R : Room) (s : State) (m : MethodId) (args : Array Value) (below : List Frame) (meth : Method) (c : Code) (Q : State → Prop) (cc : ByteArray) (G : EG) (mi nL : Nat) (ph0 : Bool) (r0 : PRs) : Prop :=
  ∀ (ph : Bool) (pc : Nat) (o : Option PV) (L : List PV) (M : Mem) (X : PX) (H : Heap) (locs : List Loc) (ls : Array Slot), (decode cc pc = .ok (.ireturn, 1) ∧ ckI mi (pc, .ireturn, 1, 0, 0) = true ∧ (∃ x, o = some (pI x) ∧ rOK (rkM mi) x = true)) ∨ (decode cc pc = .ok (.lreturn, 1) ∧ ckI mi (pc, .lreturn, 1, 0, 0) = true ∧ ∃ x, o = some (pL x)) ∨ (decode cc pc = .ok (.return_, 1) ∧ ckI mi (pc, .return_, 1, 0, 0) = true ∧ o = none) → r0 = (.inl o, M, X) → FI G s H locs ph nL M X ls L [] → (ph0 = true → ph = true) →
    W p l e R s m args below meth c H locs (cX mi X) (sX mi X) Q (F0 m pc ls (o.toList.map (tvG G)))
/-- one step -/
def STEP (p : Program) (l : Launch) (e : Env) (R : Room) (s : State) (m : MethodId) (args : Array Value) (below : List Frame) (meth : Method) (c : Code) (Q : State → Prop) (G : EG) (mi lv nL : Nat) (ph0 : Bool) (r0 : PRs) (pc : Nat) (i : Instr × Nat × Nat × Int32) : Prop :=
  ∀ (ph : Bool) (cl : Nat → Nat → List PV → Mem → PX → Option PRs) (K : KT) (L st : List PV) (M : Mem) (X : PX) (H : Heap) (locs : List Loc) (ls : Array Slot), stp ph cl mi lv K (pc, i) L st M X = some r0 → CL ph cl → IHK p l e R s m args below meth c Q G mi nL ph K r0 → FI G s H locs ph nL M X ls L st → (ph0 = true → ph = true) → BD mi X → W p l e R s m args below meth c H locs (cX mi X) (sX mi X) Q (F0 m pc ls (st.map (tvG G)))
set_option maxHeartbeats 4000000 in
theorem step_ck {ph0 : Bool} {i : Instr × Nat × Nat × Int32} (hx : p.tables.exec = Jvm.exec) (hb : c.code = cc) (hF : CF l R s m args c G mi lv nL) (hP : POOL (ownM mi)) (hnm : (∃ k, i.1 = .putfield k) → meth.name = (yN mi).name) (hfr : 1 ≤ R.frames) (hlo : 8 + (nativeFrameWords "java/lang/System" "arraycopy" 5 + 11) ≤ R.locals) (hlo2 : 21 ≤ R.locals) (hAI : Cond.arrayClass .int ∈ gwT) (hAL : Cond.arrayClass .long ∈ gwT)
    (hE : ENDS p l e R s m args below meth c Q cc G mi nL ph0 r0) (hck : ckE cc mi (pc, i) = true) : STEP p l e R s m args below meth c Q G mi lv nL ph0 r0 pc i := by
  intro ph cl K L st M X H locs ls h hcl ih fi h0 hB
  have hF0 := hF
  obtain ⟨hml, hown, hts, hSI, hRc, hRs, hRf, hRl, hlv, hCT, hCON⟩ := hF
  obtain ⟨hP1, hP2, hP3, hP4, hP5⟩ := hP
  obtain ⟨i, len, tg, cv⟩ := i
  unfold ckE at hck
  rw [Bool.and_eq_true, decide_eq_true_eq] at hck
  obtain ⟨hd, hk⟩ := hck
  unfold ckI at hk
  cases i <;> dsimp only at hd hk
  case iconst n =>
    rw [Bool.and_eq_true] at hk
    obtain ⟨hk, h2⟩ := hk
    have hk := nbeq_t hk
    subst hk
    have h2 := of_decide_eq_true h2
    exact fr_iconst hx hb ih fi h hd h2
  case bipush n =>
    rw [Bool.and_eq_true] at hk
    obtain ⟨hk, h2⟩ := hk
    have hk := nbeq_t hk
    subst hk
    have h2 := of_decide_eq_true h2
    exact fr_bipush hx hb ih fi h hd h2
  case sipush n =>
    rw [Bool.and_eq_true] at hk
    obtain ⟨hk, h2⟩ := hk
    have hk := nbeq_t hk
    subst hk
    have h2 := of_decide_eq_true h2
    exact fr_sipush hx hb ih fi h hd h2
  case lconst k =>
    have hk := nbeq_t hk
    subst hk
    exact fr_lconst hx hb ih fi h hd
  case iload_n k =>
    have hk := nbeq_t hk
    subst hk
    exact fr_iload_n hx hb ih fi h hd
  case iload k =>
    have hk := nbeq_t hk
    subst hk
    exact fr_iload hx hb ih fi h hd
  case istore_n k =>
    have hk := nbeq_t hk
    subst hk
    exact fr_istore_n hx hb ih fi h hd
  case istore k =>
    have hk := nbeq_t hk
    subst hk
    exact fr_istore hx hb ih fi h hd
  case lload_n k =>
    have hk := nbeq_t hk
    subst hk
    exact fr_lload_n hx hb ih fi h hd
  case lload k =>
    have hk := nbeq_t hk
    subst hk
    exact fr_lload hx hb ih fi h hd
  case lstore_n k =>
    have hk := nbeq_t hk
    subst hk
    exact fr_lstore_n hx hb ih fi h hd
  case lstore k =>
    have hk := nbeq_t hk
    subst hk
    exact fr_lstore hx hb ih fi h hd
  case aload_n k =>
    have hk := nbeq_t hk
    subst hk
    exact fr_aload_n hx hb ih fi h hd
  case aload k =>
    have hk := nbeq_t hk
    subst hk
    exact fr_aload hx hb ih fi h hd
  case astore_n k =>
    have hk := nbeq_t hk
    subst hk
    exact fr_astore_n hx hb ih fi h hd
  case astore k =>
    have hk := nbeq_t hk
    subst hk
    exact fr_astore hx hb ih fi h hd
  case iinc k n =>
    rw [Bool.and_eq_true] at hk
    obtain ⟨hk, h2⟩ := hk
    have hk := nbeq_t hk
    subst hk
    have h2 := of_decide_eq_true h2
    exact fr_iinc hx hb ih fi h hd h2
  case iadd =>
    have hk := nbeq_t hk
    subst hk
    exact fr_iadd hx hb ih fi h hd
  case isub =>
    have hk := nbeq_t hk
    subst hk
    exact fr_isub hx hb ih fi h hd
  case imul =>
    have hk := nbeq_t hk
    subst hk
    exact fr_imul hx hb ih fi h hd
  case iand =>
    have hk := nbeq_t hk
    subst hk
    exact fr_iand hx hb ih fi h hd
  case ior =>
    have hk := nbeq_t hk
    subst hk
    exact fr_ior hx hb ih fi h hd
  case ishl =>
    have hk := nbeq_t hk
    subst hk
    exact fr_ishl hx hb ih fi h hd
  case ishr =>
    have hk := nbeq_t hk
    subst hk
    exact fr_ishr hx hb ih fi h hd
  case irem =>
    have hk := nbeq_t hk
    subst hk
    exact fr_irem hx hb ih fi h hd
  case ineg =>
    have hk := nbeq_t hk
    subst hk
    exact fr_ineg hx hb ih fi h hd
  case i2c =>
    have hk := nbeq_t hk
    subst hk
    exact fr_i2c hx hb ih fi h hd
  case i2l =>
    have hk := nbeq_t hk
    subst hk
    exact fr_i2l hx hb ih fi h hd
  case ladd =>
    have hk := nbeq_t hk
    subst hk
    exact fr_ladd hx hb ih fi h hd
  case ldiv =>
    have hk := nbeq_t hk
    subst hk
    exact fr_ldiv hx hb ih fi h hd
  case lrem =>
    have hk := nbeq_t hk
    subst hk
    exact fr_lrem hx hb ih fi h hd
  case lcmp =>
    have hk := nbeq_t hk
    subst hk
    exact fr_lcmp hx hb ih fi h hd
  case dup =>
    have hk := nbeq_t hk
    subst hk
    exact fr_dup hx hb ih fi h hd
  case pop =>
    have hk := nbeq_t hk
    subst hk
    exact fr_pop hx hb ih fi h hd
  case dup2 =>
    have hk := nbeq_t hk
    subst hk
    exact fr_dup2 hx hb ih fi h hd
  case goto off =>
    rw [Bool.and_eq_true] at hk
    obtain ⟨hk, h2⟩ := hk
    have hk := nbeq_t hk
    subst hk
    have h2 := of_decide_eq_true h2
    exact fr_goto hx hb ih fi h hd h2
  case ifCond k off =>
    rw [Bool.and_eq_true] at hk
    obtain ⟨hk, h2⟩ := hk
    have hk := nbeq_t hk
    subst hk
    have h2 := of_decide_eq_true h2
    exact fr_ifCond hx hb ih fi h hd h2
  case if_icmp k off =>
    rw [Bool.and_eq_true] at hk
    obtain ⟨hk, h2⟩ := hk
    have hk := nbeq_t hk
    subst hk
    have h2 := of_decide_eq_true h2
    exact fr_if_icmp hx hb ih fi h hd h2
  case ifnonnull off =>
    rw [Bool.and_eq_true] at hk
    obtain ⟨hk, h2⟩ := hk
    have hk := nbeq_t hk
    subst hk
    have h2 := of_decide_eq_true h2
    exact fr_ifnonnull hx hb ih fi h hd h2
  case ifnull off =>
    have hk := nbeq_t hk
    subst hk
    exact fr_ifnull hx hb ih fi h hd
  case ldc i =>
    rw [Bool.and_eq_true] at hk
    obtain ⟨hk, h2⟩ := hk
    have hk := nbeq_t hk
    subst hk
    exact fr_ldc hx hb ih fi h hd hown hts hSI hP5 hP2 (nlC_ok h2)
  case ldc_w i =>
    rw [Bool.and_eq_true] at hk
    obtain ⟨hk, h2⟩ := hk
    have hk := nbeq_t hk
    subst hk
    exact fr_ldc_w hx hb ih fi h hd hown hts hSI hP5 hP2 (nlC_ok h2)
  case ldc2_w i =>
    rw [Bool.and_eq_true] at hk
    obtain ⟨hk, h2⟩ := hk
    have hk := nbeq_t hk
    subst hk
    exact fr_ldc2_w hx hb ih fi h hd hown hts hSI hP5 hP2 (yLC_ok h2)
  case getstatic i =>
    have hk := nbeq_t hk
    subst hk
    exact fr_getstatic hx hb ih fi h hd hown hts hSI hP4
  case getfield i =>
    have hk := nbeq_t hk
    subst hk
    exact fr_getfield hx hb ih fi h hd hown hts hSI hP1
  case putfield i =>
    rw [Bool.and_eq_true] at hk
    obtain ⟨hk, h2⟩ := hk
    have hk := nbeq_t hk
    subst hk
    exact fr_putfield hx hb ih fi h hd hown hts hSI hP1 (fun f hf h3 => by rw [hnm ⟨i, rfl⟩]; exact pfC_ok h2 f hf h3)
  case iaload =>
    have hk := nbeq_t hk
    subst hk
    exact fr_iaload hx hb ih fi h hd hts hSI
  case baload =>
    have hk := nbeq_t hk
    subst hk
    exact fr_baload hx hb ih fi h hd hts hSI
  case iastore =>
    have hk := nbeq_t hk
    subst hk
    exact fr_iastore hx hb ih fi h hd hts hSI
  case laload =>
    have hk := nbeq_t hk
    subst hk
    exact fr_laload hx hb ih fi h hd hts hSI
  case lastore =>
    have hk := nbeq_t hk
    subst hk
    exact fr_lastore hx hb ih fi h hd hts hSI
  case aaload =>
    have hk := nbeq_t hk
    subst hk
    exact fr_aaload hx hb ih fi h hd hts hSI
  case arraylength =>
    have hk := nbeq_t hk
    subst hk
    exact fr_arraylength hx hb ih fi h hd hts hSI
  case aastore =>
    have hk := nbeq_t hk
    subst hk
    exact fr_aastore hx hb (hCT 6 (by decide) (by decide)) ih fi h hd hts hSI
  case new i =>
    rw [Bool.and_eq_true] at hk
    obtain ⟨hk, h2⟩ := hk
    have hk := nbeq_t hk
    subst hk
    exact fr_new hx hb ih fi h hd hown hts hSI hRc hRs hP3 (nwC_ok h2)
  case newarray ty =>
    have hk := nbeq_t hk
    subst hk
    cases ty
    case int => exact fr_newarray_int hx hb ih fi h hd hown hts hSI hRc hRs hAI
    case long => exact fr_newarray_long hx hb ih fi h hd hown hts hSI hRc hRs hAL
    all_goals
      exfalso
      unfold stp at h
      dsimp only at h
      obtain ⟨n, q, rfl, h1⟩ := u1_inv h
      obtain ⟨-, h2⟩ := bif_inv h1
      cases h2
  case anewarray i =>
    rw [Bool.and_eq_true] at hk
    obtain ⟨hk, h2⟩ := hk
    have hk := nbeq_t hk
    subst hk
    exact fr_anewarray hx hb ih fi h hd hown hts hSI hRc hRs (hasW_in h2)
  case tableswitch d lo hi offs =>
    exact fr_tableswitch hx hb ih fi h hd (fun t ht hp => tsB_ok (swC_ok hk t ht hp))
  case lookupswitch d ps =>
    exact fr_lookupswitch hx hb ih fi h hd (fun t ht hp => lsB_ok (swC_ok hk t ht hp))
  case ireturn =>
    rw [Bool.and_eq_true] at hk
    obtain ⟨hk, h2⟩ := hk
    have hk := nbeq_t hk
    subst hk
    unfold stp at h
    dsimp only at h
    obtain ⟨x, q, rfl, h1⟩ := u1_inv h
    obtain ⟨rfl, h3⟩ := ue_inv h1
    obtain ⟨h4, h5⟩ := ite_inv h3
    exact hE ph pc (some (pI x)) L M X H locs ls (Or.inl ⟨hd, (by unfold ckI; dsimp only; rw [Bool.and_eq_true]; exact ⟨rfl, h2⟩), x, rfl, h4⟩) (Option.some.inj h5).symm (fi_tl fi) h0
  case lreturn =>
    rw [Bool.and_eq_true] at hk
    obtain ⟨hk, h2⟩ := hk
    have hk := nbeq_t hk
    subst hk
    unfold stp at h
    dsimp only at h
    obtain ⟨x, q, rfl, h1⟩ := ul1_inv h
    obtain ⟨rfl, h3⟩ := ue_inv h1
    exact hE ph pc (some (pL x)) L M X H locs ls (Or.inr (Or.inl ⟨hd, (by unfold ckI; dsimp only; rw [Bool.and_eq_true]; exact ⟨rfl, h2⟩), x, rfl⟩)) (Option.some.inj h3).symm (fi_tl fi) h0
  case return_ =>
    rw [Bool.and_eq_true] at hk
    obtain ⟨hk, h2⟩ := hk
    have hk := nbeq_t hk
    subst hk
    unfold stp at h
    dsimp only at h
    obtain ⟨rfl, h3⟩ := ue_inv h
    exact hE ph pc none L M X H locs ls (Or.inr (Or.inr ⟨hd, (by unfold ckI; dsimp only; rw [Bool.and_eq_true]; exact ⟨rfl, h2⟩), rfl⟩)) (Option.some.inj h3).symm fi h0
  case invokevirtual i =>
    rw [Bool.and_eq_true] at hk
    obtain ⟨hk, h2⟩ := hk
    have hk := nbeq_t hk
    subst hk
    exact fr_virtual hx hb ih fi h hd hF0 hcl hB (fun w hw => ⟨(ivC_ok h2 w hw).1, (ivC_ok h2 w hw).2 rfl⟩)
  case invokespecial i =>
    rw [Bool.and_eq_true] at hk
    obtain ⟨hk, h2⟩ := hk
    have hk := nbeq_t hk
    subst hk
    exact fr_special hx hb ih fi h hd hF0 hcl hB hfr (Nat.le_trans (by decide) hlo2) (fun w hw => ⟨(ivC_ok h2 w hw).1, fun q => (ivC_ok h2 w hw).2 (Nat.ble_eq_true_of_le q)⟩)
  case invokestatic i =>
    rw [Bool.and_eq_true] at hk
    obtain ⟨hk, h2⟩ := hk
    have hk := nbeq_t hk
    subst hk
    exact fr_static hx hb ih fi h hd hF0 hcl hB hfr hlo hlo2 (fun w hw => ⟨(ivC_ok h2 w hw).1, fun q => (ivC_ok h2 w hw).2 (by rw [q]; rfl)⟩)
  all_goals
    exfalso
    unfold stp at h
    cases h
theorem frame9 {ph0 : Bool} (hS : ∀ pc i, lkp (pt mi) pc = some i → STEP p l e R s m args below meth c Q G mi lv nL ph0 r0 pc i) (hBr : alM mi = true → r0.2.2.2.2.2.1 ≤ mcM mi ∧ r0.2.2.2.2.2.2.1 ≤ msM mi) :
    ∀ (n : Nat) (ph : Bool) (pc : Nat) (L st : List PV) (M : Mem) (X : PX) (H : Heap) (locs : List Loc) (ls : Array Slot), run n ph mi lv pc L st M X = some r0 → FI G s H locs ph nL M X ls L st → (ph0 = true → ph = true) → W p l e R s m args below meth c H locs (cX mi X) (sX mi X) Q (F0 m pc ls (st.map (tvG G))) := by
  intro n
  induction n with
  | zero => intro ph pc L st M X H locs ls h; cases h
  | succ n ih =>
    intro ph pc L st M X H locs ls h fi h0
    have hB : BD mi X := fun ha => by
      have h1 := (run_P (n + 1) r0 h).2.2.2.2 ha
      have h2 := hBr ha
      exact ⟨Nat.le_trans h1.1 h2.1, Nat.le_trans h1.2 h2.2⟩
    have h : stA (fun ph m' lv' as M X => run n ph m' lv' 0 as [] M X) (fun ph => run n ph mi lv) ph mi lv pc L st M X = some r0 := h
    unfold stA at h
    cases hp : (!ph && psw mi pc) with
    | true =>
      rw [hp] at h
      obtain ⟨h1, h2⟩ := ite_inv (show (if setA X.2.1 M = true then run n true mi lv pc L st M X else none) = some r0 from h)
      exact ih true pc L st M X H locs ls h2 ⟨fi.1, fun _ => h1, fi.2.2⟩ (fun _ => rfl)
    | false =>
      rw [hp] at h
      obtain ⟨i, hi, h1⟩ := bind_inv (show ((lkp (pt mi) pc).bind fun e => stp ph (fun m' lv' as M X => run n ph m' lv' 0 as [] M X) mi lv (run n ph mi lv) (pc, e) L st M X) = some r0 from h)
      exact hS pc i hi ph _ _ L st M X H locs ls h1 (fun m' lv' as M X q hq => ⟨ev_run hq, run_P n q hq⟩) (fun pc L st M X H locs ls h2 f2 => ih ph pc L st M X H locs ls h2 f2 h0) fi h0 hB
end FRAM
