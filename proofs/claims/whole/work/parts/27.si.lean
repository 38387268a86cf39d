/-! the state at the law's entry -/
section SIB
set_option maxRecDepth 100000
def flN : List Cond := flatC (Jvm.Cond.and given_1 narrow_1)
def smT : List (String × Nat) := [("MergeBelts$Question", 58), ("MergeBelts$BeltText", 27), ("MergeBelts$BeltText", 72), ("MergeBelts$BeltText", 211), ("MergeBelts$BeltText", 52), ("MergeBelts$Question", 44), ("MergeBelts$Question", 127), ("MergeBelts$BeltText", 219), ("MergeBelts$BeltText", 221), ("MergeBelts$Question", 35), ("MergeBelts$Question", 89), ("MergeBelts$Question", 60), ("MergeBelts$Question", 123), ("MergeBelts$Question", 131), ("MergeBelts$BeltText", 217), ("MergeBelts$Question", 129), ("MergeBelts$BeltText", 213), ("MergeBelts$BeltText", 67), ("MergeBelts$BeltText", 77), ("MergeBelts$BeltText", 130), ("MergeBelts$BeltText", 215), ("MergeBelts$BeltText", 62)]
def smO (k : Nat) : String × Nat := smT.getD k ("", 0)
def smTm (k : Nat) : Term := .string (smO k).1 (smO k).2
def stW (t : Term) (len : Nat) (byt : List Int32) : List Cond := [.exactly t "java/lang/String", .eq (.field t "java/lang/String" "coder" "B") (.int 0), .arrayOf (.field t "java/lang/String" "value" "[B") .byte, .eq (.length (.field t "java/lang/String" "value" "[B")) (.int (Int32.ofNat len))] ++ (List.range len).map fun j => .eq (.elem (.field t "java/lang/String" "value" "[B") (.int (Int32.ofNat j))) (.int (byt.getD j 0))
def stx : List (List Nat) := [[246, 247, 248, 249, 250, 251, 252], [39, 40, 41, 42, 43, 44, 45, 46], [81, 82, 83, 84, 85, 86, 87, 88, 89], [99, 100, 101, 102, 103, 104, 105, 106, 107, 108], [47, 48, 49, 50, 51, 52, 53, 54], [159, 160, 161, 162, 163, 164, 165, 166, 167], [193, 194, 195, 196, 197, 198, 199, 200], [135, 136, 137, 138, 139, 140, 141, 142], [143, 144, 145, 146, 147, 148, 149, 150], [151, 152, 153, 154, 155, 156, 157, 158], [168, 169, 170, 171, 172, 173, 174], [253, 254, 255, 256, 257, 258], [175, 176, 177, 178, 179, 180, 181, 182, 183], [210, 211, 212, 213, 214, 215, 216, 217, 218], [127, 128, 129, 130, 131, 132, 133, 134], [201, 202, 203, 204, 205, 206, 207, 208, 209], [109, 110, 111, 112, 113, 114, 115, 116, 117], [73, 74, 75, 76, 77, 78, 79, 80], [90, 91, 92, 93, 94, 95, 96, 97, 98], [63, 64, 65, 66, 67, 68, 69, 70, 71, 72], [118, 119, 120, 121, 122, 123, 124, 125, 126], [55, 56, 57, 58, 59, 60, 61, 62]]
def inN (w : Cond) (i : Nat) : Bool := decide (flN[i]? = some w)
theorem st_ck : ((List.range 22).all fun k => zipB inN (stW (smTm k) (slnL.getD k 0) (sbyt.getD k [])) (stx.getD k [])) = true := by decide +kernel
def ctx : List (List (String × Nat × Nat)) := [[], [("", 0, 0), ("", 0, 0)], [("", 0, 0)], [("belt", 810, 0), ("exit", 901, 0), ("ware", 926, 0), ("side", 932, 0), ("comes", 937, 0), ("turns", 942, 0), ("urgent", 931, 0), ("credit", 964, 0), ("share", 965, 0), ("waits", 966, 0), ("room", 967, 0), ("held", 968, 0), ("late", 969, 0)], [("many", 1402, 0), ("first", 1404, 0), ("and", 1446, 0), ("or", 1447, 0), ("not", 1411, 0), ("place", 1427, 0), ("ware", 1428, 192), ("from", 1429, 0), ("round", 1430, 0), ("rides", 1431, 0), ("held", 1432, 227), ("exit", 1433, 236), ("side", 1434, 245)], [("", 0, 0)], [], [], [], [], [], [], [], [("", 0, 0), ("", 0, 0), ("", 0, 0), ("urgent", 1978, 298), ("credit", 2006, 339), ("share", 2007, 349), ("waits", 2008, 359), ("room", 2009, 368), ("held", 2010, 377), ("late", 2011, 387), ("side", 1979, 307), ("exit", 1964, 276), ("ware", 1973, 286), ("comes", 1984, 318), ("turns", 1989, 328), ("belt", 1928, 267), ("place", 2047, 424), ("from", 2048, 433), ("round", 2049, 443), ("rides", 2050, 453), ("not", 2038, 414), ("and", 2055, 461), ("or", 2056, 468), ("many", 2025, 406), ("first", 2020, 397), ("", 0, 0)], [], [], [], [], []]
def csB (o : Nat) (q : Nat × PV) (z : String × Nat × Nat) : Bool := match q.2 with
  | .inr (.inr (_, k)) => Nat.blt k 22 && decide (lw_tbl[z.2.1]? = some (.stringRef (cn o) q.1 z.1)) && (decide (smO k = (cn o, q.1)) || inN (.eq (smTm k) (.string (cn o) q.1)) z.2.2)
  | _ => true
def zipC {α β : Type} (f : α → β → Bool) : List α → List β → Bool
  | [], _ => true
  | _ :: _, [] => false
  | x :: l, i :: is => f x i && zipC f l is
theorem zipC_in {α β : Type} {f : α → β → Bool} : ∀ {l : List α} {is : List β}, zipC f l is = true → ∀ q ∈ l, ∃ i, f q i = true
  | [], _, _, q, hq => by cases hq
  | _ :: _, [], h, _, _ => by cases h
  | x :: l, i :: is, h, q, hq => by
    have h : (f x i && zipC f l is) = true := h
    rw [Bool.and_eq_true] at h
    rcases List.mem_cons.mp hq with rfl | hq
    · exact ⟨i, h.1⟩
    · exact zipC_in h.2 q hq
theorem cs_ck : ((List.range 19).all fun o => zipC (csB o) (cstP o) (ctx.getD o [])) = true := by decide +kernel
def stD (i j : Nat) : Bool := Nat.beq i j || !(decide (Int32.ofNat (slnL.getD i 0) = Int32.ofNat (slnL.getD j 0))) || (List.range (slnL.getD i 0)).any (fun x => Nat.blt x (slnL.getD j 0) && !(decide ((sbyt.getD i []).getD x 0 = (sbyt.getD j []).getD x 0)))
theorem sd_ck : ((List.range 22).all fun i => (List.range 22).all fun j => stD i j) = true := by decide +kernel
def ktI (k : Nat) : Nat := [7, 3, 12, 11, 5, 4, 10, 9, 8, 6, 2, 1, 13].getD k 0
theorem kt_ck : ((List.range 13).all fun k => Nat.beq (kci (ktI k)) k && Nat.ble 1 (ktI k) && Nat.ble (ktI k) 13 && hasW (inT.getD (ktI k) 0) (.instantiable (clT (ktI k)).1 (clT (ktI k)).2.2)) = true := by decide +kernel
theorem len_ck : ((List.range 22).all fun k => Nat.blt (slnL.getD k 0) 100) = true := by decide +kernel
variable {s : State} {args : Array Value} {A : Nat → Prop}
theorem inN_of (h0 : (Jvm.Cond.and given_1 narrow_1).before args s = true) {w : Cond} {i : Nat} (h : inN w i = true) : w.before args s = true := flat_of_before _ h0 w (List.mem_of_getElem? (of_decide_eq_true h))
/-- what is said of one String -/
def SO (k a v : Nat) (A : Nat → Prop) (s : State) : Prop := va_O "java/lang/String" a A s s.heap ∧ va_OF "java/lang/String" "coder" "B" (.int 0) a A s s.heap ∧ va_OF "java/lang/String" "value" "[B" (.ref v) a A s s.heap ∧ va_T .byte v (slnL.getD k 0) (fun j => .int ((sbyt.getD k []).getD j 0)) A s s.heap
theorem st_one (h0 : (Jvm.Cond.and given_1 narrow_1).before args s = true) (hA : ∀ a : Nat, a < s.heap.size → ¬ A a) (k : Nat) : ∃ q : Nat × Nat, k < 22 → SO k q.1 q.2 A s ∧ (smTm k).eval args s none [] s = some (.ref q.1) := by
  rcases Nat.lt_or_ge k 22 with hk | hk
  · have h1 := List.all_eq_true.mp st_ck k (List.mem_range.mpr hk)
    have h2 : ∀ w ∈ stW (smTm k) (slnL.getD k 0) (sbyt.getD k []), w.before args s = true := fun w hw => (zipB_in h1 w hw).elim fun _ g => inN_of h0 g
    have hl := lt_of_blt (List.all_eq_true.mp len_ck k (List.mem_range.mpr hk))
    obtain ⟨adK, adV, g1, g2⟩ := vk_Sof (args := args) (s := s) (N := 1) (tm := fun _ => smTm k) (len := [slnL.getD k 0]) (byt := [sbyt.getD k []]) (A := A)
      (fun i hi => by obtain rfl : i = 0 := by omega
                      show slnL.getD k 0 < _; omega)
      (fun i hi => h2 _ (by unfold stW; simp)) (fun i hi => h2 _ (by unfold stW; simp)) (fun i hi => h2 _ (by unfold stW; simp))
      (fun i hi => by obtain rfl : i = 0 := by omega
                      exact h2 _ (by unfold stW; simp))
      (fun i hi j hj => by obtain rfl : i = 0 := by omega
                           exact h2 _ (List.mem_append_right _ (List.mem_map.mpr ⟨j, List.mem_range.mpr hj, rfl⟩)))
      (fun i j hi hj hne => absurd (by omega : i = j) hne) hA
    exact ⟨(adK 0, adV 0), fun _ => ⟨g1.1 0 (by omega), g2 0 (by omega)⟩⟩
  · exact ⟨(0, 0), fun h => absurd h (by omega)⟩
theorem so_inj {i j a v1 v2 : Nat} (hi : i < 22) (hj : j < 22) (h1 : SO i a v1 A s) (h2 : SO j a v2 A s) : i = j := by
  obtain ⟨-, -, ⟨c1, k1, i1, f1, e1, a1, a2, a3, a4, a5, a6⟩, ⟨t1, b1, b2, b3, b4, b5, b6, b7⟩⟩ := h1
  obtain ⟨-, -, ⟨c2, k2, i2, f2, e2, d1, d2, d3, d4, d5, d6⟩, ⟨t2, g1, g2, g3, g4, g5, g6, g7⟩⟩ := h2
  rw [a1] at d1
  cases d1
  rw [a3] at d3
  cases d3
  rw [a5] at d5
  cases d5
  rw [b1] at g1
  cases g1
  have h := List.all_eq_true.mp (List.all_eq_true.mp sd_ck i (List.mem_range.mpr hi)) j (List.mem_range.mpr hj)
  unfold stD at h
  rw [Bool.or_eq_true, Bool.or_eq_true] at h
  rcases h with (h | h) | h
  · exact nbeq_t h
  · exfalso
    rw [← b5, ← g5, decide_eq_true rfl] at h
    cases h
  · exfalso
    obtain ⟨x, hx, hx2⟩ := List.any_eq_true.mp h
    rw [Bool.and_eq_true] at hx2
    have y1 := b6 x (List.mem_range.mp hx)
    have y2 := g6 x (lt_of_blt hx2.1)
    rw [y1] at y2
    have y3 : (sbyt.getD i []).getD x 0 = (sbyt.getD j []).getD x 0 := by injection y2 with y2; injection y2
    rw [y3, decide_eq_true rfl] at hx2
    cases hx2.2
theorem arr_of {ty : FieldType} {c : ClassId} {k : Class} {comp : ClassId} (h2 : s.vm.classes[c]? = some k) (h3 : k.kind = .array comp ty) : ArrOfT s c ty := fun n z => ⟨fun q h => (by cases h), k, h2, comp, h3⟩
end SIB
