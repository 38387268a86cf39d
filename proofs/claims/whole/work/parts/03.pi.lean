/-! A small machine over numbers: values, memory, one step, runs. -/
abbrev PV : Type := Int32 ⊕ (Int64 ⊕ (Nat × Nat))
abbrev pI (x : Int32) : PV := Sum.inl x
abbrev pL (x : Int64) : PV := Sum.inr (Sum.inl x)
abbrev pR (c a : Nat) : PV := Sum.inr (Sum.inr (c, a))
abbrev p0 : PV := pR 0 0
abbrev Mem : Type := Nat → Nat → Int32
/-- out, our cells, cells, cells and slots of this frame, the length of the script -/
abbrev PX : Type := Int64 × Nat × Nat × Nat × Nat × Nat
abbrev PO : Type := (Option PV) ⊕ Nat
abbrev PRs : Type := PO × Mem × PX
/-- pc, instruction, length, target, constant -/
abbrev PE : Type := Nat × Instr × Nat × Nat × Int32
def upM (M : Mem) (a k : Nat) (v : Int32) : Mem := fun a' k' => if a' = a ∧ k' = k then v else M a' k'
def nlM (M : Mem) (a : Nat) : Mem := fun a' k' => if a' = a then 0 else M a' k'
def cpM (M : Mem) (s sp d dp n : Nat) : Mem := fun a' k' => if a' = d ∧ dp ≤ k' ∧ k' < dp + n then M s (sp + (k' - dp)) else M a' k'
def nth : List PV → Nat → PV
  | [], _ => p0
  | v :: _, 0 => v
  | _ :: l, n + 1 => nth l n
def pset : List PV → Nat → PV → List PV
  | [], _, _ => []
  | _ :: l, 0, w => w :: l
  | v :: l, n + 1, w => v :: pset l n w
def plen : List PV → Nat
  | [] => 0
  | _ :: l => plen l + 1
def kll (ls : List PV) : Nat → List PV
  | 0 => ls
  | j + 1 => match nth ls j with
    | .inr (.inl _) => pset ls j p0
    | _ => ls
def st1 (ls : List PV) (i : Nat) (v : PV) : List PV := pset (kll ls i) i v
def st2 (ls : List PV) (i : Nat) (v : PV) : List PV := pset (pset (kll ls i) i v) (i + 1) p0
def inB (i : Int32) (n : Nat) : Bool := !(decide (i < 0) || decide (n ≤ i.toNatClampNeg))
/-- what an answer of a small kind may be: 1 boolean, 2 char, 3 byte, else int -/
def rOK (t : Nat) (x : Int32) : Bool := match t with
  | 1 => decide (x = 0) || decide (x = 1)
  | 2 => decide ((x.toUInt32 % 65536).toInt32 = x)
  | 3 => decide (x.toInt8.toInt32 = x)
  | _ => true
def lkp {α : Type} : List (Nat × α) → Nat → Option α
  | [], _ => none
  | e :: l, k => bif Nat.beq e.1 k then some e.2 else lkp l k
theorem lkp_mem {α : Type} : ∀ {l : List (Nat × α)} {k : Nat} {e : α}, lkp l k = some e → (k, e) ∈ l
  | [], _, _, h => by simp [lkp] at h
  | (a, b) :: l, k, e, h => by
    unfold lkp at h
    cases hb : Nat.beq a k with
    | true =>
      rw [hb] at h
      have : a = k := Nat.eq_of_beq_eq_true hb
      subst this
      simp only [cond_true, Option.some.injEq] at h
      subst h
      exact List.mem_cons_self
    | false =>
      rw [hb] at h
      exact List.mem_cons_of_mem _ (lkp_mem h)
/-- the arguments, the last on top, off the stack -/
def popn : Nat → List PV → List PV → Option (List PV × List PV)
  | 0, acc, st => some (acc, st)
  | _ + 1, _, [] => none
  | n + 1, acc, v :: st => popn n (v :: acc) st
def expd : List PV → List PV
  | [] => []
  | .inr (.inl x) :: l => .inr (.inl x) :: p0 :: expd l
  | .inl x :: l => .inl x :: expd l
  | .inr (.inr x) :: l => .inr (.inr x) :: expd l
def padl : Nat → List PV → List PV
  | 0, l => l
  | n + 1, [] => p0 :: padl n []
  | n + 1, v :: l => v :: padl n l
def sw {β : Type} (K : Nat → β) (x : Int32) (d : Nat) : List (Int32 × Nat) → β
  | [] => K d
  | (v, t) :: r => if x = v then K t else sw K x d r
def cnd {β : Type} (c : ClassFile.Cond) (x y : Int32) (A B : β) : β := match c with
  | .eq => if x = y then A else B
  | .ne => if x = y then B else A
  | .lt => if x < y then A else B
  | .ge => if x < y then B else A
  | .gt => if y < x then A else B
  | .le => if y < x then B else A
abbrev KT : Type := Nat → List PV → List PV → Mem → PX → Option PRs
def u1 {β : Type} (st : List PV) (f : Int32 → List PV → Option β) : Option β := match st with
  | .inl x :: r => f x r
  | _ => none
def u2 {β : Type} (st : List PV) (f : Int32 → Int32 → List PV → Option β) : Option β := match st with
  | .inl y :: .inl x :: r => f x y r
  | _ => none
def ul1 {β : Type} (st : List PV) (f : Int64 → List PV → Option β) : Option β := match st with
  | .inr (.inl x) :: r => f x r
  | _ => none
def ul2 {β : Type} (st : List PV) (f : Int64 → Int64 → List PV → Option β) : Option β := match st with
  | .inr (.inl y) :: .inr (.inl x) :: r => f x y r
  | _ => none
def ur1 {β : Type} (st : List PV) (f : Nat → Nat → List PV → Option β) : Option β := match st with
  | .inr (.inr (c, a)) :: r => f c a r
  | _ => none
/-- an int above a reference -/
def uir {β : Type} (st : List PV) (f : Nat → Nat → Int32 → List PV → Option β) : Option β := match st with
  | .inl x :: .inr (.inr (c, a)) :: r => f c a x r
  | _ => none
def uiir {β : Type} (st : List PV) (f : Nat → Nat → Int32 → Int32 → List PV → Option β) : Option β := match st with
  | .inl v :: .inl i :: .inr (.inr (c, a)) :: r => f c a i v r
  | _ => none
def ulir {β : Type} (st : List PV) (f : Nat → Nat → Int32 → Int64 → List PV → Option β) : Option β := match st with
  | .inr (.inl v) :: .inl i :: .inr (.inr (c, a)) :: r => f c a i v r
  | _ => none
def urir {β : Type} (st : List PV) (f : Nat → Nat → Int32 → Nat → Nat → List PV → Option β) : Option β := match st with
  | .inr (.inr (d, b)) :: .inl i :: .inr (.inr (c, a)) :: r => f c a i d b r
  | _ => none
def urr {β : Type} (st : List PV) (f : Nat → Nat → Nat → Nat → List PV → Option β) : Option β := match st with
  | .inr (.inr (d, b)) :: .inr (.inr (c, a)) :: r => f c a d b r
  | _ => none
def ucp {β : Type} (st : List PV) (f : Nat → Nat → Int32 → Nat → Nat → Int32 → Int32 → List PV → Option β) : Option β := match st with
  | .inl n :: .inl dp :: .inr (.inr (d, b)) :: .inl sp :: .inr (.inr (c, a)) :: r => f c a sp d b dp n r
  | _ => none
def utop {β : Type} (st : List PV) (f : PV → List PV → Option β) : Option β := match st with
  | .inl x :: r => f (.inl x) r
  | .inr (.inr q) :: r => f (.inr (.inr q)) r
  | _ => none
def ue {β : Type} (st : List PV) (b : Option β) : Option β := match st with
  | [] => b
  | _ => none
/-- words of a stack -/
def wg : List PV → Nat
  | [] => 0
  | .inl _ :: l => wg l + 1
  | .inr (.inl _) :: l => wg l + 2
  | .inr (.inr _) :: l => wg l + 1
