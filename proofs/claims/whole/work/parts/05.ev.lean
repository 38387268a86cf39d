/-- every reference slot of a made object is set (no object under way) -/
def fkA (c k : Nat) : Nat × Nat := (fkT.getD c []).getD k (0, 0)
def isRf (a k : Nat) : Bool := (Nat.beq (tyA a) 16 && Nat.blt k 10) || Nat.beq (fkA (tyA a) k).1 2
def rof (a k : Nat) : Nat := bif Nat.beq (tyA a) 16 then 1 + 50 * k else (fkA (tyA a) k).2
def setOK (M : Mem) (a : Nat) : Bool := (List.range (bif Nat.beq (tyA a) 16 then 10 else (fkT.getD (tyA a) []).length)).all fun k => !(isRf a k) || decide (M a k = 1)
def setA (na : Nat) (M : Mem) : Bool := (List.range na).all fun a => setOK M a
def enX (al : Nat) (X : PX) : PX := bif Nat.beq al 0 then X else (X.1, X.2.1, X.2.2.1, 0, 0, X.2.2.2.2.2)
def bkX (al : Bool) (mc ms : Nat) (X X' : PX) : PX := bif al then (X'.1, X'.2.1, X'.2.2.1, X.2.2.2.1 + mc, X.2.2.2.2.1 + ms, X.2.2.2.2.2) else X'
def hdF : List (Nat × Nat × Int32) → Nat → Nat → Option Int32
  | [], _, _ => none
  | (a, b, c) :: l, m, e => bif Nat.beq a m && Nat.beq b e then some c else hdF l m e
/-- behind a call -/
def kRet (ph al : Bool) (m mc ms nx : Nat) (K : KT) (ls r : List PV) (X : PX) (q : PRs) : Option PRs := match q.1 with
  | .inl none => K nx ls r q.2.1 (bkX al mc ms X q.2.2)
  | .inl (some v) => K nx ls (v :: r) q.2.1 (bkX al mc ms X q.2.2)
  | .inr e => bif ph then (match hdF hdT m e with
    | some c => some (.inl (some (pI c)), q.2.1, bkX al mc ms X q.2.2)
    | none => none) else none
def kCall (ph : Bool) (cl : Nat → Nat → List PV → Mem → PX → Option PRs) (m lv : Nat) (K : KT) (nx : Nat) (w : Nat × Nat × Nat × Nat × Nat × Nat × Nat) (as ls r : List PV) (M : Mem) (X : PX) : Option PRs :=
  bif Nat.ble (wg r) 8 && Nat.ble (plen (expd as)) w.2.2.2.1 then (bif Nat.beq w.2.2.2.2.1 0 then (bif Nat.beq (rgM w.2.1) 0 then (cl w.2.1 0 (padl w.2.2.2.1 (expd as)) M X).bind (kRet ph (alM m) m 0 0 nx K ls r X)
    else bif Nat.beq (rgM w.2.1) (rgM m) then (bif Nat.blt lv 40 then (cl w.2.1 (lv + 1) (padl w.2.2.2.1 (expd as)) M X).bind (kRet ph (alM m) m 0 0 nx K ls r X) else none)
    else (cl w.2.1 0 (padl w.2.2.2.1 (expd as)) M X).bind (kRet ph (alM m) m 0 0 nx K ls r X))
  else bif alM m then (if X.2.2.2.1 + w.2.2.2.2.2.1 ≤ mcM m ∧ X.2.2.2.2.1 + w.2.2.2.2.2.2 ≤ msM m then (cl w.2.1 0 (padl w.2.2.2.1 (expd as)) M (enX 1 X)).bind (kRet ph (alM m) m w.2.2.2.2.2.1 w.2.2.2.2.2.2 nx K ls r X) else none)
  else none) else none
/-- the tag of a receiver by the method's owner -/
def otg (o : Nat) : Nat := bif Nat.beq o 16 then 18 else o
/-- one step -/
def stp (ph : Bool) (cl : Nat → Nat → List PV → Mem → PX → Option PRs) (m lv : Nat) (K : KT) (e : PE) (ls st : List PV) (M : Mem) (X : PX) : Option PRs :=
  match e.2.1 with
  | .iconst _ => K (e.1 + e.2.2.1) ls (pI e.2.2.2.2 :: st) M X
  | .bipush _ => K (e.1 + e.2.2.1) ls (pI e.2.2.2.2 :: st) M X
  | .sipush _ => K (e.1 + e.2.2.1) ls (pI e.2.2.2.2 :: st) M X
  | .lconst k => K (e.1 + e.2.2.1) ls (pL (bif Nat.beq k.val 0 then 0 else 1) :: st) M X
  | .ldc i => (lkp (cstP (ownM m)) i).bind fun v => K (e.1 + e.2.2.1) ls (v :: st) M X
  | .ldc_w i => (lkp (cstP (ownM m)) i).bind fun v => K (e.1 + e.2.2.1) ls (v :: st) M X
  | .ldc2_w i => (lkp (cstP (ownM m)) i).bind fun v => K (e.1 + e.2.2.1) ls (v :: st) M X
  | .iload_n i => u1 [nth ls i.val] fun x _ => K (e.1 + e.2.2.1) ls (pI x :: st) M X
  | .iload i => u1 [nth ls i] fun x _ => K (e.1 + e.2.2.1) ls (pI x :: st) M X
  | .lload_n i => ul1 [nth ls i.val] fun x _ => K (e.1 + e.2.2.1) ls (pL x :: st) M X
  | .lload i => ul1 [nth ls i] fun x _ => K (e.1 + e.2.2.1) ls (pL x :: st) M X
  | .aload_n i => ur1 [nth ls i.val] fun c a _ => bif Nat.beq c 0 then none else K (e.1 + e.2.2.1) ls (pR c a :: st) M X
  | .aload i => ur1 [nth ls i] fun c a _ => bif Nat.beq c 0 then none else K (e.1 + e.2.2.1) ls (pR c a :: st) M X
  | .istore_n i => u1 st fun x r => bif Nat.blt i.val (plen ls) then K (e.1 + e.2.2.1) (st1 ls i.val (pI x)) r M X else none
  | .istore i => u1 st fun x r => bif Nat.blt i (plen ls) then K (e.1 + e.2.2.1) (st1 ls i (pI x)) r M X else none
  | .lstore_n i => ul1 st fun x r => bif Nat.blt (i.val + 1) (plen ls) then K (e.1 + e.2.2.1) (st2 ls i.val (pL x)) r M X else none
  | .lstore i => ul1 st fun x r => bif Nat.blt (i + 1) (plen ls) then K (e.1 + e.2.2.1) (st2 ls i (pL x)) r M X else none
  | .astore_n i => ur1 st fun c a r => bif Nat.blt i.val (plen ls) then K (e.1 + e.2.2.1) (st1 ls i.val (pR c a)) r M X else none
  | .astore i => ur1 st fun c a r => bif Nat.blt i (plen ls) then K (e.1 + e.2.2.1) (st1 ls i (pR c a)) r M X else none
  | .iinc i _ => u1 [nth ls i] fun x _ => bif Nat.blt i (plen ls) then K (e.1 + e.2.2.1) (st1 ls i (pI (x + e.2.2.2.2))) st M X else none
  | .iadd => u2 st fun x y r => K (e.1 + e.2.2.1) ls (pI (x + y) :: r) M X
  | .isub => u2 st fun x y r => K (e.1 + e.2.2.1) ls (pI (x - y) :: r) M X
  | .imul => u2 st fun x y r => K (e.1 + e.2.2.1) ls (pI (x * y) :: r) M X
  | .iand => u2 st fun x y r => K (e.1 + e.2.2.1) ls (pI (x &&& y) :: r) M X
  | .ior => u2 st fun x y r => K (e.1 + e.2.2.1) ls (pI (x ||| y) :: r) M X
  | .ishl => u2 st fun x y r => K (e.1 + e.2.2.1) ls (pI (x <<< (y &&& 31)) :: r) M X
  | .ishr => u2 st fun x y r => K (e.1 + e.2.2.1) ls (pI (x >>> (y &&& 31)) :: r) M X
  | .irem => u2 st fun x y r => if y = 0 then none else K (e.1 + e.2.2.1) ls (pI (x - x / y * y) :: r) M X
  | .ineg => u1 st fun x r => K (e.1 + e.2.2.1) ls (pI (-x) :: r) M X
  | .i2c => u1 st fun x r => K (e.1 + e.2.2.1) ls (pI (x.toUInt32 % 65536).toInt32 :: r) M X
  | .i2l => u1 st fun x r => K (e.1 + e.2.2.1) ls (pL x.toInt64 :: r) M X
  | .ladd => ul2 st fun x y r => K (e.1 + e.2.2.1) ls (pL (x + y) :: r) M X
  | .ldiv => ul2 st fun x y r => if y = 0 then none else K (e.1 + e.2.2.1) ls (pL (x / y) :: r) M X
  | .lrem => ul2 st fun x y r => if y = 0 then none else K (e.1 + e.2.2.1) ls (pL (x - x / y * y) :: r) M X
  | .lcmp => ul2 st fun x y r => K (e.1 + e.2.2.1) ls (pI (lg_cmp x y) :: r) M X
  | .dup => utop st fun v r => K (e.1 + e.2.2.1) ls (v :: v :: r) M X
  | .dup2 => uir st fun c a x r => K (e.1 + e.2.2.1) ls (pI x :: pR c a :: pI x :: pR c a :: r) M X
  | .pop => utop st fun _ r => K (e.1 + e.2.2.1) ls r M X
  | .goto _ => K e.2.2.2.1 ls st M X
  | .ifCond c _ => u1 st fun x r => cnd c x 0 (K e.2.2.2.1 ls r M X) (K (e.1 + e.2.2.1) ls r M X)
  | .if_icmp c _ => u2 st fun x y r => cnd c x y (K e.2.2.2.1 ls r M X) (K (e.1 + e.2.2.1) ls r M X)
  | .ifnull _ => ur1 st fun c _ r => bif Nat.beq c 6 then K (e.1 + e.2.2.1) ls r M X else none
  | .ifnonnull _ => ur1 st fun c _ r => bif Nat.beq c 6 then K e.2.2.2.1 ls r M X else none
  | .tableswitch _ _ _ _ => u1 st fun x r => (lkp swT m).bind fun t => bif Nat.beq t.1 e.1 then sw (fun pc => K pc ls r M X) x e.2.2.2.1 t.2 else none
  | .lookupswitch _ _ => u1 st fun x r => (lkp swT m).bind fun t => bif Nat.beq t.1 e.1 then sw (fun pc => K pc ls r M X) x e.2.2.2.1 t.2 else none
  | .getstatic i => (lkp (gstP (ownM m)) i).bind fun v => K (e.1 + e.2.2.1) ls (v :: st) M X
  | .getfield i => ur1 st fun c a r => (lkp (fldP (ownM m)) i).bind fun f => bif Nat.beq f.1 c then (bif Nat.blt f.2.2.1 2 then K (e.1 + e.2.2.1) ls (pI (M a f.2.1) :: r) M X
      else bif Nat.beq f.2.2.1 2 then (bif ph then K (e.1 + e.2.2.1) ls (pR f.2.2.2.2 (a + f.2.2.2.1) :: r) M X else if M a f.2.1 = 1 then K (e.1 + e.2.2.1) ls (pR f.2.2.2.2 (a + f.2.2.2.1) :: r) M X else none)
      else bif Nat.beq f.2.2.1 3 then K (e.1 + e.2.2.1) ls (pI 0 :: r) M X
      else bif Nat.beq f.2.2.1 4 then K (e.1 + e.2.2.1) ls (pR f.2.2.2.2 a :: r) M X else none) else none
  | .putfield i => (lkp (fldP (ownM m)) i).bind fun f => bif Nat.beq f.2.2.1 0 then (uir st fun c a v r => bif Nat.beq f.1 c then K (e.1 + e.2.2.1) ls r (upM M a f.2.1 v) X else none)
      else bif Nat.beq f.2.2.1 1 then (uir st fun c a v r => bif Nat.beq f.1 c then (if rOK 1 v = true then K (e.1 + e.2.2.1) ls r (upM M a f.2.1 v) X else none) else none)
      else bif Nat.beq f.2.2.1 2 then (urr st fun c a d b r => bif !ph && Nat.beq f.1 c && Nat.beq f.2.2.2.2 d then (if b = a + f.2.2.2.1 then K (e.1 + e.2.2.1) ls r (upM M a f.2.1 1) X else none) else none)
      else none
  | .iaload => uir st fun c a i r => bif Nat.beq c 14 then (if inB i (ln a) = true then K (e.1 + e.2.2.1) ls (pI (M a i.toNatClampNeg) :: r) M X else none)
      else bif Nat.beq c 17 then (if inB i X.2.2.2.2.2 = true then K (e.1 + e.2.2.1) ls (pI (M 900 i.toNatClampNeg) :: r) M X else none) else none
  | .baload => uir st fun c a i r => bif Nat.beq c 19 then (if inB i (sln a) = true then K (e.1 + e.2.2.1) ls (pI (Int32.ofNat (sch a i.toNatClampNeg)) :: r) M X else none) else none
  | .iastore => uiir st fun c a i v r => bif Nat.beq c 14 then (if inB i (ln a) = true then K (e.1 + e.2.2.1) ls r (upM M a i.toNatClampNeg v) X else none) else none
  | .laload => uir st fun c a i r => bif Nat.beq c 15 then (if inB i (ln a) = true then K (e.1 + e.2.2.1) ls (pL X.1 :: r) M X else none) else none
  | .lastore => ulir st fun c a i v r => bif Nat.beq c 15 then (if inB i (ln a) = true then K (e.1 + e.2.2.1) ls r M (v, X.2) else none) else none
  | .aaload => uir st fun c a i r => bif ph && Nat.beq c 16 then (if inB i 10 = true then K (e.1 + e.2.2.1) ls (pR 6 (a + 1 + 50 * i.toNatClampNeg) :: r) M X else none) else none
  | .aastore => urir st fun c a i d b r => bif !ph && Nat.beq c 16 && Nat.beq d 6 then (if inB i 10 = true ∧ b = a + 1 + 50 * i.toNatClampNeg then K (e.1 + e.2.2.1) ls r (upM M a i.toNatClampNeg 1) X else none) else none
  | .arraylength => ur1 st fun c a r => bif Nat.beq c 14 || Nat.beq c 16 then K (e.1 + e.2.2.1) ls (pI (Int32.ofNat (ln a)) :: r) M X
      else bif Nat.beq c 19 then K (e.1 + e.2.2.1) ls (pI (Int32.ofNat (sln a)) :: r) M X
      else bif Nat.beq c 17 then K (e.1 + e.2.2.1) ls (pI (Int32.ofNat X.2.2.2.2.2) :: r) M X else none
  | .new i => (lkp (nclP (ownM m)) i).bind fun t => bif Nat.blt 100 t.1 then (bif ph && alM m && Nat.ble (wg st) 8 then (if X.2.2.2.1 + 1 ≤ mcM m ∧ X.2.2.2.2.1 + 6 ≤ msM m then some (.inr (t.1 - 100), M, X.1, X.2.1, X.2.2.1 + 1, X.2.2.2.1 + 1, X.2.2.2.2.1 + 6, X.2.2.2.2.2) else none) else none)
      else bif !ph && alM m then (if tyA X.2.1 = t.1 ∧ X.2.1 = X.2.2.1 ∧ X.2.2.2.1 + 1 ≤ mcM m ∧ X.2.2.2.2.1 + t.2 ≤ msM m then K (e.1 + e.2.2.1) ls (pR t.1 X.2.1 :: st) (nlM M X.2.1) (X.1, X.2.1 + 1, X.2.2.1 + 1, X.2.2.2.1 + 1, X.2.2.2.2.1 + t.2, X.2.2.2.2.2) else none) else none
  | .newarray ty => u1 st fun n r => bif !ph && alM m then (match ty with
      | .int => if tyA X.2.1 = 14 ∧ X.2.1 = X.2.2.1 ∧ ¬ n < 0 ∧ n.toNatClampNeg = ln X.2.1 ∧ X.2.2.2.1 + 1 ≤ mcM m ∧ X.2.2.2.2.1 + ln X.2.1 ≤ msM m then K (e.1 + e.2.2.1) ls (pR 14 X.2.1 :: r) (nlM M X.2.1) (X.1, X.2.1 + 1, X.2.2.1 + 1, X.2.2.2.1 + 1, X.2.2.2.2.1 + ln X.2.1, X.2.2.2.2.2) else none
      | .long => if tyA X.2.1 = 15 ∧ X.2.1 = X.2.2.1 ∧ ¬ n < 0 ∧ n.toNatClampNeg = ln X.2.1 ∧ X.2.2.2.1 + 1 ≤ mcM m ∧ X.2.2.2.2.1 + ln X.2.1 ≤ msM m then K (e.1 + e.2.2.1) ls (pR 15 X.2.1 :: r) (nlM M X.2.1) (0, X.2.1 + 1, X.2.2.1 + 1, X.2.2.2.1 + 1, X.2.2.2.2.1 + ln X.2.1, X.2.2.2.2.2) else none
      | _ => none) else none
  | .anewarray _ => u1 st fun n r => bif !ph && alM m then (if tyA X.2.1 = 16 ∧ X.2.1 = X.2.2.1 ∧ ¬ n < 0 ∧ n.toNatClampNeg = 10 ∧ X.2.2.2.1 + 1 ≤ mcM m ∧ X.2.2.2.2.1 + 10 ≤ msM m then K (e.1 + e.2.2.1) ls (pR 16 X.2.1 :: r) (nlM M X.2.1) (X.1, X.2.1 + 1, X.2.2.1 + 1, X.2.2.2.1 + 1, X.2.2.2.2.1 + 10, X.2.2.2.2.2) else none) else none
  | .ireturn => u1 st fun x r => ue r (if rOK (rkM m) x = true then some (.inl (some (pI x)), M, X) else none)
  | .lreturn => ul1 st fun x r => ue r (some (.inl (some (pL x)), M, X))
  | .return_ => ue st (some (.inl none, M, X))
  | .invokevirtual i => (lkp (mthP (ownM m)) i).bind fun w => (popn w.2.2.1 [] st).bind fun q => ur1 q.2 fun c a r => bif Nat.beq w.1 0 && Nat.beq c (otg (ownM w.2.1)) then kCall ph cl m lv K (e.1 + e.2.2.1) w (pR c a :: q.1) ls r M X else none
  | .invokespecial i => (lkp (mthP (ownM m)) i).bind fun w => (popn w.2.2.1 [] st).bind fun q => ur1 q.2 fun c a r => bif Nat.beq c 0 || Nat.blt 16 c then none else bif Nat.beq w.1 2 then (bif Nat.ble (wg r) 8 then K (e.1 + e.2.2.1) ls r M X else none) else bif Nat.blt 4 w.1 && Nat.blt w.1 7 then kCall ph cl m lv K (e.1 + e.2.2.1) w (pR c a :: q.1) ls r M X else none
  | .invokestatic i => (lkp (mthP (ownM m)) i).bind fun w => bif Nat.beq w.1 3 then (ucp st fun c a sp d b dp n r => bif Nat.beq c 14 && Nat.beq d 14 && Nat.ble (wg r) 8 then (if ¬ sp < 0 ∧ ¬ dp < 0 ∧ ¬ n < 0 ∧ sp.toNatClampNeg + n.toNatClampNeg ≤ ln a ∧ dp.toNatClampNeg + n.toNatClampNeg ≤ ln b then K (e.1 + e.2.2.1) ls r (cpM M a sp.toNatClampNeg b dp.toNatClampNeg n.toNatClampNeg) X else none) else none)
      else bif Nat.beq w.1 1 then (popn w.2.2.1 [] st).bind fun q => kCall ph cl m lv K (e.1 + e.2.2.1) w q.1 ls q.2 M X else bif Nat.beq w.1 7 then (u2 st fun x y r => bif Nat.ble (wg r) 8 then K (e.1 + e.2.2.1) ls (pI (if y < x then y else x) :: r) M X else none) else bif Nat.beq w.1 8 then (u2 st fun x y r => bif Nat.ble (wg r) 8 then K (e.1 + e.2.2.1) ls (pI (if x < y then y else x) :: r) M X else none) else none
  | _ => none
def stA (cl : Bool → Nat → Nat → List PV → Mem → PX → Option PRs) (K : Bool → KT) (ph : Bool) (m lv pc : Nat) (ls st : List PV) (M : Mem) (X : PX) : Option PRs :=
  bif !ph && psw m pc then (if setA X.2.1 M = true then K true pc ls st M X else none)
  else (lkp (pt m) pc).bind fun e => stp ph (cl ph) m lv (K ph) (pc, e) ls st M X
def run : Nat → Bool → Nat → Nat → KT
  | 0, _, _, _, _, _, _, _, _ => none
  | n + 1, ph, m, lv, pc, ls, st, M, X => stA (fun ph m' lv' as M X => run n ph m' lv' 0 as [] M X) (fun ph => run n ph m lv) ph m lv pc ls st M X
/-- in the long run F says what b says -/
def CR {β : Type} (F : Nat → Option β) (b : Option β) : Prop := ∀ r, b = some r → ∃ n, ∀ k, n ≤ k → F k = some r
theorem cr_no {β : Type} {F : Nat → Option β} : CR F none := fun _ h => by cases h
theorem cr_cs {β : Type} {b : Option β} : CR (fun _ => b) b := fun _ h => ⟨0, fun _ _ => h⟩
theorem cr_bind {α β : Type} {F : Nat → Option α} {a : Option α} {G : Nat → α → Option β} {g : α → Option β} (h : CR F a) (k : ∀ v, CR (fun n => G n v) (g v)) : CR (fun n => (F n).bind (G n)) (a.bind g) := by
  intro r hr
  cases ha : a with
  | none => rw [ha] at hr; cases hr
  | some v =>
    rw [ha] at hr
    obtain ⟨n1, h1⟩ := h v ha
    obtain ⟨n2, h2⟩ := k v r hr
    exact ⟨max n1 n2, fun j hj => by show (F j).bind (G j) = some r; rw [h1 j (by omega)]; exact h2 j (by omega)⟩
theorem cr_b0 {α β : Type} {a : Option α} {G : Nat → α → Option β} {g : α → Option β} (k : ∀ v, CR (fun n => G n v) (g v)) : CR (fun n => a.bind (G n)) (a.bind g) := cr_bind cr_cs k
theorem cr_bf {β : Type} {b : Bool} {F G : Nat → Option β} {f g : Option β} (h : CR F f) (k : CR G g) : CR (fun n => bif b then F n else G n) (bif b then f else g) := by cases b <;> assumption
theorem cr_it {β : Type} {c : Prop} [Decidable c] {F G : Nat → Option β} {f g : Option β} (h : CR F f) (k : CR G g) : CR (fun n => if c then F n else G n) (if c then f else g) := by
  by_cases hc : c
  · simpa [hc] using h
  · simpa [hc] using k
theorem cr_cn {β : Type} {c : ClassFile.Cond} {x y : Int32} {F G : Nat → Option β} {f g : Option β} (h : CR F f) (k : CR G g) : CR (fun n => cnd c x y (F n) (G n)) (cnd c x y f g) := by
  cases c <;> unfold cnd <;> dsimp only <;> first | exact cr_it h k | exact cr_it k h
theorem cr_sw {β : Type} {K : Nat → Nat → Option β} {k : Nat → Option β} (h : ∀ p, CR (fun n => K n p) (k p)) {x : Int32} {d : Nat} : ∀ l : List (Int32 × Nat), CR (fun n => sw (K n) x d l) (sw k x d l)
  | [] => h d
  | (v, t) :: r => cr_it (h t) (cr_sw h r)
theorem cr_u1 {β : Type} {st : List PV} {F : Nat → Int32 → List PV → Option β} {f : Int32 → List PV → Option β} (h : ∀ x r, CR (fun n => F n x r) (f x r)) : CR (fun n => u1 st (F n)) (u1 st f) := by
  unfold u1; split <;> first | exact h _ _ | exact cr_no
theorem cr_u2 {β : Type} {st : List PV} {F : Nat → Int32 → Int32 → List PV → Option β} {f : Int32 → Int32 → List PV → Option β} (h : ∀ x y r, CR (fun n => F n x y r) (f x y r)) : CR (fun n => u2 st (F n)) (u2 st f) := by
  unfold u2; split <;> first | exact h _ _ _ | exact cr_no
theorem cr_ul1 {β : Type} {st : List PV} {F : Nat → Int64 → List PV → Option β} {f : Int64 → List PV → Option β} (h : ∀ x r, CR (fun n => F n x r) (f x r)) : CR (fun n => ul1 st (F n)) (ul1 st f) := by
  unfold ul1; split <;> first | exact h _ _ | exact cr_no
theorem cr_ul2 {β : Type} {st : List PV} {F : Nat → Int64 → Int64 → List PV → Option β} {f : Int64 → Int64 → List PV → Option β} (h : ∀ x y r, CR (fun n => F n x y r) (f x y r)) : CR (fun n => ul2 st (F n)) (ul2 st f) := by
  unfold ul2; split <;> first | exact h _ _ _ | exact cr_no
theorem cr_ur1 {β : Type} {st : List PV} {F : Nat → Nat → Nat → List PV → Option β} {f : Nat → Nat → List PV → Option β} (h : ∀ x y r, CR (fun n => F n x y r) (f x y r)) : CR (fun n => ur1 st (F n)) (ur1 st f) := by
  unfold ur1; split <;> first | exact h _ _ _ | exact cr_no
theorem cr_uir {β : Type} {st : List PV} {F : Nat → Nat → Nat → Int32 → List PV → Option β} {f : Nat → Nat → Int32 → List PV → Option β} (h : ∀ x y z r, CR (fun n => F n x y z r) (f x y z r)) : CR (fun n => uir st (F n)) (uir st f) := by
  unfold uir; split <;> first | exact h _ _ _ _ | exact cr_no
theorem cr_uiir {β : Type} {st : List PV} {F : Nat → Nat → Nat → Int32 → Int32 → List PV → Option β} {f : Nat → Nat → Int32 → Int32 → List PV → Option β} (h : ∀ x y z w r, CR (fun n => F n x y z w r) (f x y z w r)) : CR (fun n => uiir st (F n)) (uiir st f) := by
  unfold uiir; split <;> first | exact h _ _ _ _ _ | exact cr_no
theorem cr_ulir {β : Type} {st : List PV} {F : Nat → Nat → Nat → Int32 → Int64 → List PV → Option β} {f : Nat → Nat → Int32 → Int64 → List PV → Option β} (h : ∀ x y z w r, CR (fun n => F n x y z w r) (f x y z w r)) : CR (fun n => ulir st (F n)) (ulir st f) := by
  unfold ulir; split <;> first | exact h _ _ _ _ _ | exact cr_no
theorem cr_urir {β : Type} {st : List PV} {F : Nat → Nat → Nat → Int32 → Nat → Nat → List PV → Option β} {f : Nat → Nat → Int32 → Nat → Nat → List PV → Option β} (h : ∀ x y z w v r, CR (fun n => F n x y z w v r) (f x y z w v r)) : CR (fun n => urir st (F n)) (urir st f) := by
  unfold urir; split <;> first | exact h _ _ _ _ _ _ | exact cr_no
theorem cr_urr {β : Type} {st : List PV} {F : Nat → Nat → Nat → Nat → Nat → List PV → Option β} {f : Nat → Nat → Nat → Nat → List PV → Option β} (h : ∀ x y z w r, CR (fun n => F n x y z w r) (f x y z w r)) : CR (fun n => urr st (F n)) (urr st f) := by
  unfold urr; split <;> first | exact h _ _ _ _ _ | exact cr_no
theorem cr_ucp {β : Type} {st : List PV} {F : Nat → Nat → Nat → Int32 → Nat → Nat → Int32 → Int32 → List PV → Option β} {f : Nat → Nat → Int32 → Nat → Nat → Int32 → Int32 → List PV → Option β} (h : ∀ a b c d e g i r, CR (fun n => F n a b c d e g i r) (f a b c d e g i r)) : CR (fun n => ucp st (F n)) (ucp st f) := by
  unfold ucp; split <;> first | exact h _ _ _ _ _ _ _ _ | exact cr_no
theorem cr_utop {β : Type} {st : List PV} {F : Nat → PV → List PV → Option β} {f : PV → List PV → Option β} (h : ∀ x r, CR (fun n => F n x r) (f x r)) : CR (fun n => utop st (F n)) (utop st f) := by
  unfold utop; split <;> first | exact h _ _ | exact cr_no
theorem cr_ue {β : Type} {st : List PV} {F : Nat → Option β} {f : Option β} (h : CR F f) : CR (fun n => ue st (F n)) (ue st f) := by
  unfold ue; split <;> first | exact h | exact cr_no
section STPCR
variable {ph : Bool} {m lv : Nat} {clF : Nat → Nat → Nat → List PV → Mem → PX → Option PRs} {cl : Nat → Nat → List PV → Mem → PX → Option PRs} {KF : Nat → KT} {K : KT}
theorem kRet_CR {al : Bool} {mc ms nx : Nat} {ls r : List PV} {X : PX} (hK : ∀ pc ls st M X, CR (fun n => KF n pc ls st M X) (K pc ls st M X)) (q : PRs) : CR (fun n => kRet ph al m mc ms nx (KF n) ls r X q) (kRet ph al m mc ms nx K ls r X q) := by
  obtain ⟨o, M', X'⟩ := q
  rcases o with (_ | v) | e
  · exact hK _ _ _ _ _
  · exact hK _ _ _ _ _
  · exact cr_cs
theorem kCall_CR (hcl : ∀ m' lv' as M X, CR (fun n => clF n m' lv' as M X) (cl m' lv' as M X)) (hK : ∀ pc ls st M X, CR (fun n => KF n pc ls st M X) (K pc ls st M X)) {nx : Nat} {w : Nat × Nat × Nat × Nat × Nat × Nat × Nat} {as ls r : List PV} {M : Mem} {X : PX} :
    CR (fun n => kCall ph (clF n) m lv (KF n) nx w as ls r M X) (kCall ph cl m lv K nx w as ls r M X) := by
  unfold kCall
  refine cr_bf (cr_bf (cr_bf (cr_bind (hcl _ _ _ _ _) fun q => kRet_CR hK q) (cr_bf (cr_bf (cr_bind (hcl _ _ _ _ _) fun q => kRet_CR hK q) cr_no) (cr_bind (hcl _ _ _ _ _) fun q => kRet_CR hK q))) (cr_bf (cr_it (cr_bind (hcl _ _ _ _ _) fun q => kRet_CR hK q) cr_no) cr_no)) cr_no
set_option maxHeartbeats 4000000 in
theorem stp_CR (hcl : ∀ m' lv' as M X, CR (fun n => clF n m' lv' as M X) (cl m' lv' as M X)) (hK : ∀ pc ls st M X, CR (fun n => KF n pc ls st M X) (K pc ls st M X)) {e : PE} {ls st : List PV} {M : Mem} {X : PX} :
    CR (fun n => stp ph (clF n) m lv (KF n) e ls st M X) (stp ph cl m lv K e ls st M X) := by
  obtain ⟨pc, i, len, tg, cv⟩ := e
  cases i <;> unfold stp <;> dsimp only <;> (try exact cr_no) <;>
    (repeat' first
      | exact hK _ _ _ _ _
      | exact cr_no
      | exact kCall_CR hcl hK
      | exact cr_cs
      | refine cr_u1 fun _ _ => ?_
      | refine cr_u2 fun _ _ _ => ?_
      | refine cr_ul1 fun _ _ => ?_
      | refine cr_ul2 fun _ _ _ => ?_
      | refine cr_ur1 fun _ _ _ => ?_
      | refine cr_uir fun _ _ _ _ => ?_
      | refine cr_uiir fun _ _ _ _ _ => ?_
      | refine cr_ulir fun _ _ _ _ _ => ?_
      | refine cr_urir fun _ _ _ _ _ _ => ?_
      | refine cr_urr fun _ _ _ _ _ => ?_
      | refine cr_ucp fun _ _ _ _ _ _ _ _ => ?_
      | refine cr_utop fun _ _ => ?_
      | refine cr_ue ?_
      | refine cr_sw (fun _ => ?_) _
      | refine cr_b0 fun _ => ?_
      | refine cr_bf ?_ ?_
      | refine cr_it ?_ ?_
      | refine cr_cn ?_ ?_
      | (rename_i ty _ _; cases ty <;> dsimp only)
      | (rename_i ty; cases ty <;> dsimp only))
end STPCR
/-- the answer of a run of whatever length -/
noncomputable def ev (ph : Bool) (m lv : Nat) : KT := fun pc ls st M X => by
  classical
  exact if h : ∃ n r, ∀ k, n ≤ k → run k ph m lv pc ls st M X = some r then some (h.choose_spec.choose) else none
theorem run_mono : ∀ (n : Nat) {ph : Bool} {m lv pc : Nat} {ls st : List PV} {M : Mem} {X : PX} {r : PRs}, run n ph m lv pc ls st M X = some r → run (n + 1) ph m lv pc ls st M X = some r := by
  intro n
  induction n with
  | zero => intro _ _ _ _ _ _ _ _ _ h; cases h
  | succ n ih =>
    intro ph m lv pc ls st M X r h
    have key : CR (fun _ => stA (fun ph m' lv' as M X => run (n + 1) ph m' lv' 0 as [] M X) (fun ph => run (n + 1) ph m lv) ph m lv pc ls st M X) (stA (fun ph m' lv' as M X => run n ph m' lv' 0 as [] M X) (fun ph => run n ph m lv) ph m lv pc ls st M X) := by
      unfold stA
      refine cr_bf (cr_it (fun r h => ⟨0, fun _ _ => ih h⟩) cr_no) (cr_b0 fun e => ?_)
      exact stp_CR (clF := fun _ m' lv' as M X => run (n + 1) ph m' lv' 0 as [] M X) (KF := fun _ => run (n + 1) ph m lv) (fun _ _ _ _ _ r h => ⟨0, fun _ _ => ih h⟩) (fun _ _ _ _ _ r h => ⟨0, fun _ _ => ih h⟩)
    obtain ⟨k, hk⟩ := key r h
    exact hk k (Nat.le_refl k)
theorem run_le {n k : Nat} (h : n ≤ k) {ph : Bool} {m lv pc : Nat} {ls st : List PV} {M : Mem} {X : PX} {r : PRs} (hr : run n ph m lv pc ls st M X = some r) : run k ph m lv pc ls st M X = some r := by
  obtain ⟨d, rfl⟩ := Nat.le.dest h
  clear h
  induction d with
  | zero => exact hr
  | succ d ih => exact run_mono _ ih
theorem ev_run {n : Nat} {ph : Bool} {m lv pc : Nat} {ls st : List PV} {M : Mem} {X : PX} {r : PRs} (hr : run n ph m lv pc ls st M X = some r) : ev ph m lv pc ls st M X = some r := by
  have h : ∃ n r, ∀ k, n ≤ k → run k ph m lv pc ls st M X = some r := ⟨n, r, fun k hk => run_le hk hr⟩
  unfold ev
  rw [dif_pos h]
  have h2 := h.choose_spec.choose_spec
  have h3 := h2 (max n h.choose) (by omega)
  rw [run_le (by omega : n ≤ max n h.choose) hr] at h3
  exact h3.symm
theorem run_ev {ph : Bool} {m lv pc : Nat} {ls st : List PV} {M : Mem} {X : PX} {r : PRs} (hr : ev ph m lv pc ls st M X = some r) : ∃ n, ∀ k, n ≤ k → run k ph m lv pc ls st M X = some r := by
  unfold ev at hr
  split at hr
  next h =>
    cases hr
    exact ⟨h.choose, h.choose_spec.choose_spec⟩
  next => cases hr
theorem ev_CR {ph : Bool} {m lv pc : Nat} {ls st : List PV} {M : Mem} {X : PX} : CR (fun n => run n ph m lv pc ls st M X) (ev ph m lv pc ls st M X) := fun _ h => run_ev h
/-- what a call comes to -/
noncomputable abbrev evc (ph : Bool) (m lv : Nat) (as : List PV) (M : Mem) (X : PX) : Option PRs := ev ph m lv 0 as [] M X
theorem ev_eq (ph : Bool) (m lv pc : Nat) (ls st : List PV) (M : Mem) (X : PX) : ev ph m lv pc ls st M X = stA evc (fun ph => ev ph m lv) ph m lv pc ls st M X := by
  have key : CR (fun n => run (n + 1) ph m lv pc ls st M X) (stA evc (fun ph => ev ph m lv) ph m lv pc ls st M X) := by
    show CR (fun n => stA (fun ph m' lv' as M X => run n ph m' lv' 0 as [] M X) (fun ph => run n ph m lv) ph m lv pc ls st M X) _
    unfold stA
    refine cr_bf (cr_it ev_CR cr_no) (cr_b0 fun e => ?_)
    exact stp_CR (clF := fun n m' lv' as M X => run n ph m' lv' 0 as [] M X) (KF := fun n => run n ph m lv) (fun _ _ _ _ _ => ev_CR) (fun _ _ _ _ _ => ev_CR)
  have back : ∀ n r, run n ph m lv pc ls st M X = some r → stA evc (fun ph => ev ph m lv) ph m lv pc ls st M X = some r := by
    intro n r h
    cases n with
    | zero => cases h
    | succ n =>
      have k2 : CR (fun _ => stA evc (fun ph => ev ph m lv) ph m lv pc ls st M X) (stA (fun ph m' lv' as M X => run n ph m' lv' 0 as [] M X) (fun ph => run n ph m lv) ph m lv pc ls st M X) := by
        unfold stA
        refine cr_bf (cr_it (fun r h => ⟨0, fun _ _ => ev_run h⟩) cr_no) (cr_b0 fun e => ?_)
        exact stp_CR (clF := fun _ => evc ph) (KF := fun _ => ev ph m lv) (fun _ _ _ _ _ r h => ⟨0, fun _ _ => ev_run h⟩) (fun _ _ _ _ _ r h => ⟨0, fun _ _ => ev_run h⟩)
      obtain ⟨j, hj⟩ := k2 r h
      exact hj j (Nat.le_refl j)
  cases hx : stA evc (fun ph => ev ph m lv) ph m lv pc ls st M X with
  | some r =>
    obtain ⟨n, hn⟩ := key r hx
    exact ev_run (hn n (Nat.le_refl n))
  | none =>
    cases hy : ev ph m lv pc ls st M X with
    | none => rfl
    | some r =>
      obtain ⟨n, hn⟩ := run_ev hy
      have h := back n r (hn n (Nat.le_refl n))
      rw [hx] at h
      cases h
/-- ahead to the next stops -/
noncomputable def evk (stop : Nat → Bool) (ph : Bool) (m lv : Nat) : Nat → KT
  | 0, pc, ls, st, M, X => ev ph m lv pc ls st M X
  | n + 1, pc, ls, st, M, X => stA evc (fun ph' pc' ls' st' M' X' => bif stop pc' then ev ph' m lv pc' ls' st' M' X' else evk stop ph' m lv n pc' ls' st' M' X') ph m lv pc ls st M X
theorem evk_eq (stop : Nat → Bool) : ∀ (n : Nat) (ph : Bool) (m lv pc : Nat) (ls st : List PV) (M : Mem) (X : PX), ev ph m lv pc ls st M X = evk stop ph m lv n pc ls st M X := by
  intro n
  induction n with
  | zero => intros; rfl
  | succ n ih =>
    intro ph m lv pc ls st M X
    rw [ev_eq]
    show _ = stA evc (fun ph' pc' ls' st' M' X' => bif stop pc' then ev ph' m lv pc' ls' st' M' X' else evk stop ph' m lv n pc' ls' st' M' X') ph m lv pc ls st M X
    congr 1
    funext ph' pc' ls' st' M' X'
    rw [← ih]
    cases stop pc' <;> rfl
