/-! the pools, the classes, the code: by count -/
def fxT : List (List Nat) := [[], [576, 577, 578, 579, 580, 581, 582, 583, 584, 585, 587, 230, 160, 169, 167, 339, 236, 247, 258, 275, 450, 452, 455, 420, 478, 471, 482, 441, 533, 293, 240, 244, 476, 251, 255, 480, 263, 457, 459, 461, 465, 463, 467, 469, 473, 281, 285, 288, 291, 353, 586], [159, 168, 161, 162, 165, 166, 164, 163], [338, 233, 235, 239, 243, 248, 250, 254, 259, 262, 267, 270, 273, 276, 280, 283, 287, 290, 294, 297], [351, 354, 355, 352, 210, 453], [238, 242, 249, 253, 261, 265, 268, 271, 278, 282, 286, 289, 296, 231, 234, 246, 257, 274, 292], [451, 454, 456, 458, 460, 462, 464, 466, 468, 470, 472, 474, 475, 477, 479, 481, 483, 449, 232, 266, 269, 272, 419, 237, 277, 279, 284, 241, 245, 260, 264, 295, 298, 211, 417, 256, 415, 252], [530, 532, 531], [154], [381, 382, 383, 384, 385, 386, 387, 388], [414, 416, 418], [438, 439, 440], [209, 214, 216, 212, 213, 215], [1485, 1486, 1487, 1488, 1489, 1493, 1494, 1497, 1501, 1510, 1492, 1495, 1496, 1491, 1502, 1490, 1498, 1499, 1500, 1503, 1504, 1506, 1505, 1507, 1508, 1511, 1509, 1512], [], [], [2077, 2078], [], []]
def cxT : List (List Nat) := [[], [1352, 1452], [883], [0, 0, 0, 0, 0, 0, 0, 0, 0, 0, 0, 0, 0], [0, 0, 0, 0, 0, 0, 0, 0, 0, 0, 0, 0, 0], [692], [], [], [], [], [], [], [], [1481, 1876, 1951, 0, 0, 0, 0, 0, 0, 0, 0, 0, 0, 0, 0, 0, 0, 0, 0, 0, 0, 0, 0, 0, 0, 2057], [], [], [], [], []]
def nxT : List (List Nat) := [[134, 1475], [142, 187, 343, 365, 367, 521, 724, 1027], [148], [193], [349], [199, 201], [373, 406, 428, 430], [527], [], [379], [412], [436], [207], [], [], [], [], [], []]
def gxT : List (List Nat) := [[], [], [], [], [], [], [], [], [], [], [], [], [], [], [], [], [827, 843], [], []]
def inT : List Nat := [0, 135, 143, 188, 344, 194, 368, 522, 149, 374, 407, 431, 202, 1476]
def iiT : List Nat := [0, 109, 110, 112, 115, 113, 116, 120, 111, 117, 118, 119, 114, 124]
def lx_1 : List Nat := [588, 590, 592, 594, 596, 598, 600, 602, 604, 606, 608, 610]
def lx_2 : List Nat := [170, 172, 174, 176, 178, 180, 182, 184]
def lx_3 : List Nat := [340]
def lx_4 : List Nat := [356, 358, 360, 362]
def lx_5 : List Nat := [299, 301, 303, 305, 307, 309, 311, 313, 315, 317, 319, 321, 323, 325, 327, 329, 331, 333, 335]
def lx_6 : List Nat := [484, 486, 488, 490, 492, 494, 496, 498, 500, 502, 504, 506, 508, 510, 512, 514, 516, 518]
def lx_7 : List Nat := [534, 536, 538]
def lx_8 : List Nat := [155]
def lx_9 : List Nat := [389, 391, 393, 395, 397, 399, 401, 403]
def lx_10 : List Nat := [421, 423, 425]
def lx_11 : List Nat := [442, 444, 446]
def lx_12 : List Nat := [217, 219, 221, 223, 225, 227]
def lx_13 : List Nat := [1513, 1515, 1517, 1519, 1521, 1523, 1525, 1527, 1529, 1531, 1533, 1535, 1537, 1539, 1541, 1543, 1545, 1547, 1549, 1551, 1553, 1555, 1557, 1559, 1561, 1563, 1565, 1567]
def zipB {α : Type} (f : α → Nat → Bool) : List α → List Nat → Bool
  | [], _ => true
  | _ :: _, [] => false
  | x :: l, i :: is => f x i && zipB f l is
theorem zipB_in {α : Type} {f : α → Nat → Bool} : ∀ {l : List α} {is : List Nat}, zipB f l is = true → ∀ q ∈ l, ∃ i, f q i = true
  | [], _, _, q, hq => by cases hq
  | _ :: _, [], h, _, _ => by cases h
  | x :: l, i :: is, h, q, hq => by
    have h : (f x i && zipB f l is) = true := h
    rw [Bool.and_eq_true] at h
    rcases List.mem_cons.mp hq with rfl | hq
    · exact ⟨i, h.1⟩
    · exact zipB_in h.2 q hq
theorem hasWs_in {is : List Nat} {ws : List Cond} (h : zipB (fun w i => hasW i w) ws is = true) : ∀ w ∈ ws, w ∈ gwT := fun w hw => by
  obtain ⟨i, hi⟩ := zipB_in h w hw
  exact hasW_in hi
def isO (t : FieldType) : Bool := match t with
  | .object _ => true
  | .array _ => true
  | _ => false
theorem isO_ok {t : FieldType} (h : isO t = true) : defaultValue t = .null ∧ ∀ a, fits t (.ref a) = true ∧ narrow t (.ref a) = .ref a := by
  cases t <;> first | exact ⟨rfl, fun a => ⟨rfl, rfl⟩⟩ | cases h
def ctB (t : Nat) (ty : Nat → FieldType) (idx : List Nat) : Bool := Nat.blt (kci t) 13 && Nat.beq (clT t).2.2 (nfT t) && zipB (fun w i => hasW i w) (u_ws (clT t).1 (clT t).2.1 (clT t).2.2) idx && (List.range (nfT t)).all (fun k => decide (parseFieldDescriptor ((clT t).2.1 k).2.2.1 = some (ty k)) && decide (((clT t).2.1 k).1 = (clT t).1) &&
  (bif Nat.beq (fkA t k).1 0 then decide (ty k = .int) && !((clT t).2.1 k).2.2.2 else bif Nat.beq (fkA t k).1 1 then decide (ty k = .boolean) && !((clT t).2.1 k).2.2.2 else Nat.beq (fkA t k).1 2 && ((clT t).2.1 k).2.2.2 && isO (ty k)))
theorem ctB_ok {t : Nat} {ty : Nat → FieldType} {idx : List Nat} (h : ctB t ty idx = true) (hn : ∀ a, a < (clT t).2.2 → ∀ b, b < (clT t).2.2 → a ≠ b → ((clT t).2.1 a).2.1 ≠ ((clT t).2.1 b).2.1) : CTok t := by
  unfold ctB at h
  rw [Bool.and_eq_true, Bool.and_eq_true, Bool.and_eq_true] at h
  obtain ⟨⟨⟨h1, h2⟩, h3⟩, h4⟩ := h
  have h1 := lt_of_blt h1
  have h2 := nbeq_t h2
  have key : ∀ k, k < (clT t).2.2 → _ := fun k hk => List.all_eq_true.mp h4 k (List.mem_range.mpr (by rw [← h2]; exact hk))
  refine ⟨?_, h2, hasWs_in h3, hn, ty, fun k hk => ?_, fun k hk => ?_⟩
  · have hl : vwCl.length = 13 := rfl
    unfold clT
    rw [List.getD_eq_getElem?_getD, List.getElem?_eq_getElem (by rw [hl]; exact h1)]
    rfl
  · have h5 := key k hk
    rw [Bool.and_eq_true, Bool.and_eq_true, decide_eq_true_eq] at h5
    exact h5.1.1
  · have h5 := key k hk
    rw [Bool.and_eq_true, Bool.and_eq_true, decide_eq_true_eq, decide_eq_true_eq] at h5
    refine ⟨h5.1.2, ?_⟩
    have h6 := h5.2
    cases e0 : Nat.beq (fkA t k).1 0 with
    | true =>
      rw [e0] at h6
      have h6 : (decide (ty k = .int) && !((clT t).2.1 k).2.2.2) = true := h6
      rw [Bool.and_eq_true, decide_eq_true_eq] at h6
      exact Or.inl ⟨nbeq_t e0, h6.1, by simpa using h6.2⟩
    | false =>
      rw [e0] at h6
      cases e1 : Nat.beq (fkA t k).1 1 with
      | true =>
        rw [e1] at h6
        have h6 : (decide (ty k = .boolean) && !((clT t).2.1 k).2.2.2) = true := h6
        rw [Bool.and_eq_true, decide_eq_true_eq] at h6
        exact Or.inr (Or.inl ⟨nbeq_t e1, h6.1, by simpa using h6.2⟩)
      | false =>
        rw [e1] at h6
        have h6 : (Nat.beq (fkA t k).1 2 && ((clT t).2.1 k).2.2.2 && isO (ty k)) = true := h6
        rw [Bool.and_eq_true, Bool.and_eq_true] at h6
        obtain ⟨g1, g2⟩ := isO_ok h6.2
        exact Or.inr (Or.inr ⟨nbeq_t h6.1.1, g1, h6.1.2, g2⟩)
/-- the layout: behind each object of a tag, at its place, an object of the other -/
def lyG (t dt : Nat) : List (Nat × Nat) → List (Nat × Nat) → Bool
  | [], _ => true
  | x :: l, [] => !(Nat.beq x.1 t) && lyG t dt l []
  | x :: l, y :: d => (!(Nat.beq x.1 t) || Nat.beq y.1 dt) && lyG t dt l d
theorem lyG_at {t dt : Nat} (h0 : t ≠ 0) : ∀ {l d : List (Nat × Nat)}, lyG t dt l d = true → ∀ a, (l.getD a (0, 0)).1 = t → (d.getD a (0, 0)).1 = dt
  | [], _, _, a, h => absurd (by simpa using h.symm) h0
  | x :: l, [], h, a, ha => by
    unfold lyG at h
    rw [Bool.and_eq_true] at h
    cases a with
    | zero =>
      have ha : x.1 = t := ha
      rw [ha, Nat.beq_refl] at h
      cases h.1
    | succ a =>
      have h1 := lyG_at h0 h.2 a ha
      simpa using h1
  | x :: l, y :: d, h, a, ha => by
    unfold lyG at h
    rw [Bool.and_eq_true] at h
    cases a with
    | zero =>
      have ha : x.1 = t := ha
      rw [ha, Nat.beq_refl] at h
      exact nbeq_t (by simpa using h.1)
    | succ a => exact lyG_at h0 h.2 a ha
theorem lyB_ok {t off dt : Nat} (h0 : t ≠ 0) (h : lyG t dt lay0 (lay0.drop off) = true) : ∀ a, tyA a = t → tyA (a + off) = dt := by
  intro a ha
  have h1 := lyG_at h0 h a ha
  rw [List.getD_eq_getElem?_getD, List.getElem?_drop, ← List.getD_eq_getElem?_getD] at h1
  unfold tyA
  rw [Nat.add_comm a off]
  exact h1
def feB (o : Nat) (q : Nat × (Nat × Nat × Nat × Nat × Nat)) (zi : Nat) : Bool := (Nat.ble 1 q.2.1 && Nat.ble q.2.1 13 && Nat.blt q.2.2.1 (nfT q.2.1) && Nat.beq (fkA q.2.1 q.2.2.1).1 q.2.2.2.1 && Nat.beq (fkA q.2.1 q.2.2.1).2 q.2.2.2.2.1 && Nat.ble q.2.2.2.1 2 && hasW zi (.fieldLink (cn o) q.1 (clT q.2.1).1 ((clT q.2.1).2.1 q.2.2.1).2.1 ((clT q.2.1).2.1 q.2.2.1).2.2.1) &&
  (!(Nat.beq q.2.2.2.1 2) || (Nat.blt 0 q.2.2.2.2.2 && Nat.ble q.2.2.2.2.2 16 && lyG q.2.1 q.2.2.2.2.2 lay0 (lay0.drop q.2.2.2.2.1)))) ||
  ((decide (q.2 = (18, 0, 4, 0, 19)) && hasW zi (.fieldLink (cn o) q.1 "java/lang/String" "value" "[B")) || (decide (q.2 = (18, 1, 3, 0, 0)) && hasW zi (.fieldLink (cn o) q.1 "java/lang/String" "coder" "B")))
theorem feB_ok {o zi : Nat} {q : Nat × (Nat × Nat × Nat × Nat × Nat)} (hCT : ∀ t, 1 ≤ t → t ≤ 13 → CTok t) (h : feB o q zi = true) : FEok o q := by
  unfold feB at h
  rw [Bool.or_eq_true, Bool.or_eq_true] at h
  rcases h with h | h | h
  · simp only [Bool.and_eq_true, Bool.or_eq_true] at h
    obtain ⟨⟨⟨⟨⟨⟨⟨h1, h2⟩, h3⟩, h4⟩, h5⟩, h6⟩, h7⟩, h8⟩ := h
    have h1 := Nat.le_of_ble_eq_true h1
    have h2 := Nat.le_of_ble_eq_true h2
    refine Or.inl ⟨h1, h2, hCT _ h1 h2, lt_of_blt h3, Prod.ext (nbeq_t h4) (nbeq_t h5), Nat.le_of_ble_eq_true h6, hasW_in h7, fun q2 => ?_⟩
    rw [q2] at h8
    rcases h8 with h8 | h8
    · cases h8
    · exact ⟨by have := lt_of_blt h8.1.1; omega, Nat.le_of_ble_eq_true h8.1.2, lyB_ok (by omega) h8.2⟩
  · rw [Bool.and_eq_true, decide_eq_true_eq] at h
    exact Or.inr (Or.inl ⟨h.1, hasW_in h.2⟩)
  · rw [Bool.and_eq_true, decide_eq_true_eq] at h
    exact Or.inr (Or.inr ⟨h.1, hasW_in h.2⟩)
def ceB (o : Nat) (q : Nat × PV) (zi : Nat) : Bool := match q.2 with
  | .inl v => hasW zi (.constant (cn o) q.1 v)
  | .inr (.inl v) => hasW zi (.constantLong (cn o) q.1 v)
  | .inr (.inr (t, _)) => Nat.beq t 18
theorem ceB_ok {o zi : Nat} {q : Nat × PV} (h : ceB o q zi = true) : CEok o q := by
  obtain ⟨i, v⟩ := q
  rcases v with v | v | ⟨t, a⟩
  · exact Or.inl ⟨v, rfl, hasW_in h⟩
  · exact Or.inr (Or.inl ⟨v, rfl, hasW_in h⟩)
  · have h : Nat.beq t 18 = true := h
    have h := nbeq_t h
    subst h
    exact Or.inr (Or.inr ⟨a, rfl⟩)
def neB (o : Nat) (q : Nat × (Nat × Nat)) (zi : Nat) : Bool := Nat.blt 100 q.2.1 || (Nat.ble q.2.1 13 && Nat.ble 1 q.2.1 && Nat.beq q.2.2 (clT q.2.1).2.2 && hasW zi (.classLink (cn o) q.1 (clT q.2.1).1) && hasW (inT.getD q.2.1 0) (.instantiable (clT q.2.1).1 q.2.2) && hasW (iiT.getD q.2.1 0) (.initialized (clT q.2.1).1))
theorem neB_ok {o zi : Nat} {q : Nat × (Nat × Nat)} (hCT : ∀ t, 1 ≤ t → t ≤ 13 → CTok t) (h : neB o q zi = true) : NEok o q := by
  intro h0
  unfold neB at h
  rw [Bool.or_eq_true] at h
  rcases h with h | h
  · have := lt_of_blt h
    omega
  · simp only [Bool.and_eq_true] at h
    obtain ⟨⟨⟨⟨⟨h1, h2⟩, h3⟩, h4⟩, h5⟩, h6⟩ := h
    have h1 := Nat.le_of_ble_eq_true h1
    have h2 := Nat.le_of_ble_eq_true h2
    exact ⟨h1, by omega, hCT _ h2 h1, nbeq_t h3, hasW_in h4, hasW_in h5, hasW_in h6⟩
def gsB (o : Nat) (q : Nat × PV) (zi : Nat) : Bool := (decide (q.2 = pI 1) && hasW zi (.fieldLink (cn o) q.1 "java/lang/String" "COMPACT_STRINGS" "Z")) || (decide (q.2 = pR 20 0) && hasW zi (.fieldLink (cn o) q.1 "jdk/internal/util/Preconditions" "SIOOBE_FORMATTER" sioD))
theorem gsB_ok {o zi : Nat} {q : Nat × PV} (h : gsB o q zi = true) : (q.2 = pI 1 ∧ Cond.fieldLink (cn o) q.1 "java/lang/String" "COMPACT_STRINGS" "Z" ∈ gwT) ∨ (q.2 = pR 20 0 ∧ Cond.fieldLink (cn o) q.1 "jdk/internal/util/Preconditions" "SIOOBE_FORMATTER" sioD ∈ gwT) := by
  unfold gsB at h
  rw [Bool.or_eq_true, Bool.and_eq_true, Bool.and_eq_true, decide_eq_true_eq, decide_eq_true_eq] at h
  rcases h with h | h
  · exact Or.inl ⟨h.1, hasW_in h.2⟩
  · exact Or.inr ⟨h.1, hasW_in h.2⟩
def poolB (o : Nat) : Bool := zipB (feB o) (fldP o) (fxT.getD o []) && zipB (ceB o) (cstP o) (cxT.getD o []) && zipB (neB o) (nclP o) (nxT.getD o []) && zipB (gsB o) (gstP o) (gxT.getD o []) && Nat.blt o 19
theorem poolB_ok {o : Nat} (hCT : ∀ t, 1 ≤ t → t ≤ 13 → CTok t) (h : poolB o = true) : POOL o := by
  unfold poolB at h
  rw [Bool.and_eq_true, Bool.and_eq_true, Bool.and_eq_true, Bool.and_eq_true] at h
  obtain ⟨⟨⟨⟨h1, h2⟩, h3⟩, h4⟩, h5⟩ := h
  exact ⟨fun q hq => (zipB_in h1 q hq).elim fun _ g => feB_ok hCT g, fun q hq => (zipB_in h2 q hq).elim fun _ g => ceB_ok g, fun q hq => (zipB_in h3 q hq).elim fun _ g => neB_ok hCT g, fun q hq => (zipB_in h4 q hq).elim fun _ g => gsB_ok g, lt_of_blt h5⟩
set_option maxRecDepth 100000
theorem ct_1 : CTok 1 := ctB_ok (ty := tyX11) (idx := lx_1) (by decide +kernel) nmX11
theorem ct_2 : CTok 2 := ctB_ok (ty := tyX10) (idx := lx_2) (by decide +kernel) nmX10
theorem ct_3 : CTok 3 := ctB_ok (ty := tyX1) (idx := lx_3) (by decide +kernel) nmX1
theorem ct_4 : CTok 4 := ctB_ok (ty := tyX5) (idx := lx_4) (by decide +kernel) nmX5
theorem ct_5 : CTok 5 := ctB_ok (ty := tyX4) (idx := lx_5) (by decide +kernel) nmX4
theorem ct_6 : CTok 6 := ctB_ok (ty := tyX9) (idx := lx_6) (by decide +kernel) nmX9
theorem ct_7 : CTok 7 := ctB_ok (ty := tyX0) (idx := lx_7) (by decide +kernel) nmX0
theorem ct_8 : CTok 8 := ctB_ok (ty := tyX8) (idx := lx_8) (by decide +kernel) nmX8
theorem ct_9 : CTok 9 := ctB_ok (ty := tyX7) (idx := lx_9) (by decide +kernel) nmX7
theorem ct_10 : CTok 10 := ctB_ok (ty := tyX6) (idx := lx_10) (by decide +kernel) nmX6
theorem ct_11 : CTok 11 := ctB_ok (ty := tyX3) (idx := lx_11) (by decide +kernel) nmX3
theorem ct_12 : CTok 12 := ctB_ok (ty := tyX2) (idx := lx_12) (by decide +kernel) nmX2
theorem ct_13 : CTok 13 := ctB_ok (ty := tyX12) (idx := lx_13) (by decide +kernel) nmX12
theorem ct_all : ∀ t, 1 ≤ t → t ≤ 13 → CTok t := by
  intro t h1 h2
  match t, h1, h2 with
  | 1, _, _ => exact ct_1
  | 2, _, _ => exact ct_2
  | 3, _, _ => exact ct_3
  | 4, _, _ => exact ct_4
  | 5, _, _ => exact ct_5
  | 6, _, _ => exact ct_6
  | 7, _, _ => exact ct_7
  | 8, _, _ => exact ct_8
  | 9, _, _ => exact ct_9
  | 10, _, _ => exact ct_10
  | 11, _, _ => exact ct_11
  | 12, _, _ => exact ct_12
  | 13, _, _ => exact ct_13
  | t + 14, _, h2 => omega
  | 0, h1, _ => omega
theorem po_0 : POOL 0 := poolB_ok ct_all (by decide +kernel)
theorem po_1 : POOL 1 := poolB_ok ct_all (by decide +kernel)
theorem po_2 : POOL 2 := poolB_ok ct_all (by decide +kernel)
theorem po_3 : POOL 3 := poolB_ok ct_all (by decide +kernel)
theorem po_4 : POOL 4 := poolB_ok ct_all (by decide +kernel)
theorem po_5 : POOL 5 := poolB_ok ct_all (by decide +kernel)
theorem po_6 : POOL 6 := poolB_ok ct_all (by decide +kernel)
theorem po_7 : POOL 7 := poolB_ok ct_all (by decide +kernel)
theorem po_8 : POOL 8 := poolB_ok ct_all (by decide +kernel)
theorem po_9 : POOL 9 := poolB_ok ct_all (by decide +kernel)
theorem po_10 : POOL 10 := poolB_ok ct_all (by decide +kernel)
theorem po_11 : POOL 11 := poolB_ok ct_all (by decide +kernel)
theorem po_12 : POOL 12 := poolB_ok ct_all (by decide +kernel)
theorem po_13 : POOL 13 := poolB_ok ct_all (by decide +kernel)
theorem po_14 : POOL 14 := poolB_ok ct_all (by decide +kernel)
theorem po_15 : POOL 15 := poolB_ok ct_all (by decide +kernel)
theorem po_16 : POOL 16 := poolB_ok ct_all (by decide +kernel)
theorem po_17 : POOL 17 := poolB_ok ct_all (by decide +kernel)
theorem po_18 : POOL 18 := poolB_ok ct_all (by decide +kernel)
theorem aw_i : Cond.arrayClass .int ∈ gwT := hasW_in (i := 158) (by decide +kernel)
theorem aw_l : Cond.arrayClass .long ∈ gwT := hasW_in (i := 2058) (by decide +kernel)
