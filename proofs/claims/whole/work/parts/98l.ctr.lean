/-! what the constructors make -/
section CTR
set_option maxRecDepth 100000
variable {t n b a k x y L : Nat} {o : Int64} {M M' M0 : Mem} {X X' : PX} {v : Int32}
theorem upB (h : b ≠ a) : upM M a k v b = M b := by funext y; exact up_n h
theorem nlB (h : b ≠ a) : nlM M a b = M b := by
  funext y
  unfold nlM
  rw [if_neg h]
def AG (n : Nat) (M M' : Mem) : Prop := ∀ b, b < n → M b = M' b
theorem ag_up (h : AG n M M') : AG n (upM M a k v) (upM M' a k v) := fun b hb => by
  funext y
  unfold upM
  rw [h b hb]
theorem ag_nl (h : AG a M M') : AG (a + 1) (nlM M a) (nlM M' a) := fun b hb => by
  funext y
  unfold nlM
  by_cases c : b = a
  · rw [if_pos c, if_pos c]
  · rw [if_neg c, if_neg c, h b (by omega)]
theorem kf {m mc ms nx : Nat} {K : KT} {ls r : List PV} : (some ((.inl none, M', X') : PRs)).bind (kRet false true m mc ms nx K ls r X) = K nx ls r M' (X'.1, X'.2.1, X'.2.2.1, X.2.2.2.1 + mc, X.2.2.2.2.1 + ms, X.2.2.2.2.2) := rfl
def cM10 (M : Mem) (t : Nat) : Mem := upM (nlM M (t + 1)) t 0 1
def ok10 (t n : Nat) : Bool := decide (tyA (t + 1) = 14) && decide (ln (t + 1) = n)
theorem K10 (h : ok10 t n = true) (hn : 0 < n ∧ n ≤ 500) : ∃ x y, ev false 10 0 0 [pR 8 t, pI (ii n)] [] M (o, t + 1, t + 1, 0, 0, L) = some (.inl none, cM10 M t, (o, t + 2, t + 2, x, y, L)) := by
  unfold ok10 at h
  simp only [Bool.and_eq_true, decide_eq_true_eq] at h
  obtain ⟨h1, h2⟩ := h
  have e1 : ¬ ii (n : Int) < 0 := by rw [i_0, ii_lt (by omega) (by omega) (by omega) (by omega)]; omega
  have e2 : (ii (n : Int)).toNatClampNeg = ln (t + 1) := by rw [ii_nat (by omega) (by omega), h2]; omega
  have e3 : 0 + ln (t + 1) ≤ msM 10 := by rw [h2, show msM 10 = 500 by decide]; omega
  refine ⟨0 + 1, 0 + ln (t + 1), ?_⟩
  rw [q10i_0, i_0, ltT (by omega), q10i_14, if_pos (by exact ⟨h1, rfl, e1, e2, (by decide : 0 + 1 ≤ mcM 10), e3⟩), if_pos (by exact rfl)]
  rfl
theorem AG10 (h : AG (t + 1) M M') : AG (t + 2) (cM10 M t) (cM10 M' t) := ag_up (ag_nl h)
theorem FR10 (h : b < t) : cM10 M t b = M b := by
  unfold cM10
  rw [upB (by omega), nlB (by omega)]

def cM75 (M : Mem) (t : Nat) : Mem := upM (cM10 (nlM (upM (cM10 (nlM (upM (cM10 (nlM (upM (cM10 (nlM (upM (cM10 (nlM (upM (cM10 (nlM M (t + 1)) (t + 1)) t 0 1) (t + 3)) (t + 3)) t 1 1) (t + 5)) (t + 5)) t 2 1) (t + 7)) (t + 7)) t 3 1) (t + 9)) (t + 9)) t 4 1) (t + 11)) (t + 11)) t 5 1
def ok75 (t : Nat) : Bool := decide (tyA (t + 1) = 8) && (ok10 (t + 1) 40 && (decide (tyA (t + 3) = 8) && (ok10 (t + 3) 40 && (decide (tyA (t + 5) = 8) && (ok10 (t + 5) 40 && (decide (tyA (t + 7) = 8) && (ok10 (t + 7) 40 && (decide (tyA (t + 9) = 8) && (ok10 (t + 9) 40 && (decide (tyA (t + 11) = 8) && (ok10 (t + 11) 40)))))))))))
theorem K75 (h : ok75 t = true) : ∃ x y, ev false 75 0 0 [pR 9 t] [] M (o, t + 1, t + 1, 0, 0, L) = some (.inl none, cM75 M t, (o, t + 13, t + 13, x, y, L)) := by
  unfold ok75 at h
  simp only [Bool.and_eq_true, decide_eq_true_eq] at h
  obtain ⟨h1, h2, h3, h4, h5, h6, h7, h8, h9, h10, h11, h12⟩ := h
  obtain ⟨x0, y0, k0⟩ := K10 (M := nlM M (t + 1)) (o := o) (L := L) (t := t + 1) (n := 40) h2 (by omega)
  obtain ⟨x14, y14, k14⟩ := K10 (M := nlM (upM (cM10 (nlM M (t + 1)) (t + 1)) t 0 1) (t + 3)) (o := o) (L := L) (t := t + 3) (n := 40) h4 (by omega)
  obtain ⟨x27, y27, k27⟩ := K10 (M := nlM (upM (cM10 (nlM (upM (cM10 (nlM M (t + 1)) (t + 1)) t 0 1) (t + 3)) (t + 3)) t 1 1) (t + 5)) (o := o) (L := L) (t := t + 5) (n := 40) h6 (by omega)
  obtain ⟨x40, y40, k40⟩ := K10 (M := nlM (upM (cM10 (nlM (upM (cM10 (nlM (upM (cM10 (nlM M (t + 1)) (t + 1)) t 0 1) (t + 3)) (t + 3)) t 1 1) (t + 5)) (t + 5)) t 2 1) (t + 7)) (o := o) (L := L) (t := t + 7) (n := 40) h8 (by omega)
  obtain ⟨x53, y53, k53⟩ := K10 (M := nlM (upM (cM10 (nlM (upM (cM10 (nlM (upM (cM10 (nlM (upM (cM10 (nlM M (t + 1)) (t + 1)) t 0 1) (t + 3)) (t + 3)) t 1 1) (t + 5)) (t + 5)) t 2 1) (t + 7)) (t + 7)) t 3 1) (t + 9)) (o := o) (L := L) (t := t + 9) (n := 40) h10 (by omega)
  obtain ⟨x66, y66, k66⟩ := K10 (M := nlM (upM (cM10 (nlM (upM (cM10 (nlM (upM (cM10 (nlM (upM (cM10 (nlM (upM (cM10 (nlM M (t + 1)) (t + 1)) t 0 1) (t + 3)) (t + 3)) t 1 1) (t + 5)) (t + 5)) t 2 1) (t + 7)) (t + 7)) t 3 1) (t + 9)) (t + 9)) t 4 1) (t + 11)) (o := o) (L := L) (t := t + 11) (n := 40) h12 (by omega)
  refine ⟨12, 3006, ?_⟩
  rw [q75i_0, if_pos (by exact ⟨h1, rfl, (by decide : 0 + 1 ≤ mcM 75), (by decide : 0 + 1 ≤ msM 75)⟩), if_pos (by exact ⟨(by decide : 1 + 1 ≤ mcM 75), (by decide : 1 + 500 ≤ msM 75)⟩)]
  show (ev false 10 0 0 [pR 8 (t + 1), pI (ii (40 : Nat))] [] (nlM M (t + 1)) (o, t + 2, t + 2, 0, 0, L)).bind _ = _
  rw [k0, kf]
  show ev false 75 0 14 [pR 9 t] [pR 8 (t + 1), pR 9 t] (cM10 (nlM M (t + 1)) (t + 1)) (o, t + 3, t + 3, 2, 501, L) = _
  rw [q75i_14, if_pos (by exact rfl), if_pos (by exact ⟨h3, rfl, (by decide : 2 + 1 ≤ mcM 75), (by decide : 501 + 1 ≤ msM 75)⟩), if_pos (by exact ⟨(by decide : 3 + 1 ≤ mcM 75), (by decide : 502 + 500 ≤ msM 75)⟩)]
  show (ev false 10 0 0 [pR 8 (t + 3), pI (ii (40 : Nat))] [] (nlM (upM (cM10 (nlM M (t + 1)) (t + 1)) t 0 1) (t + 3)) (o, t + 4, t + 4, 0, 0, L)).bind _ = _
  rw [k14, kf]
  show ev false 75 0 27 [pR 9 t] [pR 8 (t + 3), pR 9 t] (cM10 (nlM (upM (cM10 (nlM M (t + 1)) (t + 1)) t 0 1) (t + 3)) (t + 3)) (o, t + 5, t + 5, 4, 1002, L) = _
  rw [q75i_27, if_pos (by exact rfl), if_pos (by exact ⟨h5, rfl, (by decide : 4 + 1 ≤ mcM 75), (by decide : 1002 + 1 ≤ msM 75)⟩), if_pos (by exact ⟨(by decide : 5 + 1 ≤ mcM 75), (by decide : 1003 + 500 ≤ msM 75)⟩)]
  show (ev false 10 0 0 [pR 8 (t + 5), pI (ii (40 : Nat))] [] (nlM (upM (cM10 (nlM (upM (cM10 (nlM M (t + 1)) (t + 1)) t 0 1) (t + 3)) (t + 3)) t 1 1) (t + 5)) (o, t + 6, t + 6, 0, 0, L)).bind _ = _
  rw [k27, kf]
  show ev false 75 0 40 [pR 9 t] [pR 8 (t + 5), pR 9 t] (cM10 (nlM (upM (cM10 (nlM (upM (cM10 (nlM M (t + 1)) (t + 1)) t 0 1) (t + 3)) (t + 3)) t 1 1) (t + 5)) (t + 5)) (o, t + 7, t + 7, 6, 1503, L) = _
  rw [q75i_40, if_pos (by exact rfl), if_pos (by exact ⟨h7, rfl, (by decide : 6 + 1 ≤ mcM 75), (by decide : 1503 + 1 ≤ msM 75)⟩), if_pos (by exact ⟨(by decide : 7 + 1 ≤ mcM 75), (by decide : 1504 + 500 ≤ msM 75)⟩)]
  show (ev false 10 0 0 [pR 8 (t + 7), pI (ii (40 : Nat))] [] (nlM (upM (cM10 (nlM (upM (cM10 (nlM (upM (cM10 (nlM M (t + 1)) (t + 1)) t 0 1) (t + 3)) (t + 3)) t 1 1) (t + 5)) (t + 5)) t 2 1) (t + 7)) (o, t + 8, t + 8, 0, 0, L)).bind _ = _
  rw [k40, kf]
  show ev false 75 0 53 [pR 9 t] [pR 8 (t + 7), pR 9 t] (cM10 (nlM (upM (cM10 (nlM (upM (cM10 (nlM (upM (cM10 (nlM M (t + 1)) (t + 1)) t 0 1) (t + 3)) (t + 3)) t 1 1) (t + 5)) (t + 5)) t 2 1) (t + 7)) (t + 7)) (o, t + 9, t + 9, 8, 2004, L) = _
  rw [q75i_53, if_pos (by exact rfl), if_pos (by exact ⟨h9, rfl, (by decide : 8 + 1 ≤ mcM 75), (by decide : 2004 + 1 ≤ msM 75)⟩), if_pos (by exact ⟨(by decide : 9 + 1 ≤ mcM 75), (by decide : 2005 + 500 ≤ msM 75)⟩)]
  show (ev false 10 0 0 [pR 8 (t + 9), pI (ii (40 : Nat))] [] (nlM (upM (cM10 (nlM (upM (cM10 (nlM (upM (cM10 (nlM (upM (cM10 (nlM M (t + 1)) (t + 1)) t 0 1) (t + 3)) (t + 3)) t 1 1) (t + 5)) (t + 5)) t 2 1) (t + 7)) (t + 7)) t 3 1) (t + 9)) (o, t + 10, t + 10, 0, 0, L)).bind _ = _
  rw [k53, kf]
  show ev false 75 0 66 [pR 9 t] [pR 8 (t + 9), pR 9 t] (cM10 (nlM (upM (cM10 (nlM (upM (cM10 (nlM (upM (cM10 (nlM (upM (cM10 (nlM M (t + 1)) (t + 1)) t 0 1) (t + 3)) (t + 3)) t 1 1) (t + 5)) (t + 5)) t 2 1) (t + 7)) (t + 7)) t 3 1) (t + 9)) (t + 9)) (o, t + 11, t + 11, 10, 2505, L) = _
  rw [q75i_66, if_pos (by exact rfl), if_pos (by exact ⟨h11, rfl, (by decide : 10 + 1 ≤ mcM 75), (by decide : 2505 + 1 ≤ msM 75)⟩), if_pos (by exact ⟨(by decide : 11 + 1 ≤ mcM 75), (by decide : 2506 + 500 ≤ msM 75)⟩)]
  show (ev false 10 0 0 [pR 8 (t + 11), pI (ii (40 : Nat))] [] (nlM (upM (cM10 (nlM (upM (cM10 (nlM (upM (cM10 (nlM (upM (cM10 (nlM (upM (cM10 (nlM M (t + 1)) (t + 1)) t 0 1) (t + 3)) (t + 3)) t 1 1) (t + 5)) (t + 5)) t 2 1) (t + 7)) (t + 7)) t 3 1) (t + 9)) (t + 9)) t 4 1) (t + 11)) (o, t + 12, t + 12, 0, 0, L)).bind _ = _
  rw [k66, kf]
  show ev false 75 0 79 [pR 9 t] [pR 8 (t + 11), pR 9 t] (cM10 (nlM (upM (cM10 (nlM (upM (cM10 (nlM (upM (cM10 (nlM (upM (cM10 (nlM (upM (cM10 (nlM M (t + 1)) (t + 1)) t 0 1) (t + 3)) (t + 3)) t 1 1) (t + 5)) (t + 5)) t 2 1) (t + 7)) (t + 7)) t 3 1) (t + 9)) (t + 9)) t 4 1) (t + 11)) (t + 11)) (o, t + 13, t + 13, 12, 3006, L) = _
  rw [q75i_79, if_pos (by exact rfl)]
  rfl
theorem AG75 (h : AG (t + 1) M M') : AG (t + 13) (cM75 M t) (cM75 M' t) := ag_up (AG10 (ag_nl (ag_up (AG10 (ag_nl (ag_up (AG10 (ag_nl (ag_up (AG10 (ag_nl (ag_up (AG10 (ag_nl (ag_up (AG10 (ag_nl (h))))))))))))))))))
theorem FR75 (h : b < t) : cM75 M t b = M b := by
  unfold cM75
  rw [upB (by omega), FR10 (by omega), nlB (by omega), upB (by omega), FR10 (by omega), nlB (by omega), upB (by omega), FR10 (by omega), nlB (by omega), upB (by omega), FR10 (by omega), nlB (by omega), upB (by omega), FR10 (by omega), nlB (by omega), upB (by omega), FR10 (by omega), nlB (by omega)]
def cM91 (M : Mem) (t : Nat) : Mem := upM (cM10 (nlM (upM (cM10 (nlM (upM (cM10 (nlM M (t + 1)) (t + 1)) t 0 1) (t + 3)) (t + 3)) t 1 1) (t + 5)) (t + 5)) t 2 1
def ok91 (t : Nat) : Bool := decide (tyA (t + 1) = 8) && (ok10 (t + 1) 120 && (decide (tyA (t + 3) = 8) && (ok10 (t + 3) 120 && (decide (tyA (t + 5) = 8) && (ok10 (t + 5) 6)))))
theorem K91 (h : ok91 t = true) : ∃ x y, ev false 91 0 0 [pR 10 t] [] M (o, t + 1, t + 1, 0, 0, L) = some (.inl none, cM91 M t, (o, t + 7, t + 7, x, y, L)) := by
  unfold ok91 at h
  simp only [Bool.and_eq_true, decide_eq_true_eq] at h
  obtain ⟨h1, h2, h3, h4, h5, h6⟩ := h
  obtain ⟨x0, y0, k0⟩ := K10 (M := nlM M (t + 1)) (o := o) (L := L) (t := t + 1) (n := 120) h2 (by omega)
  obtain ⟨x14, y14, k14⟩ := K10 (M := nlM (upM (cM10 (nlM M (t + 1)) (t + 1)) t 0 1) (t + 3)) (o := o) (L := L) (t := t + 3) (n := 120) h4 (by omega)
  obtain ⟨x27, y27, k27⟩ := K10 (M := nlM (upM (cM10 (nlM (upM (cM10 (nlM M (t + 1)) (t + 1)) t 0 1) (t + 3)) (t + 3)) t 1 1) (t + 5)) (o := o) (L := L) (t := t + 5) (n := 6) h6 (by omega)
  refine ⟨6, 1503, ?_⟩
  rw [q91i_0, if_pos (by exact ⟨h1, rfl, (by decide : 0 + 1 ≤ mcM 91), (by decide : 0 + 1 ≤ msM 91)⟩), if_pos (by exact ⟨(by decide : 1 + 1 ≤ mcM 91), (by decide : 1 + 500 ≤ msM 91)⟩)]
  show (ev false 10 0 0 [pR 8 (t + 1), pI (ii (120 : Nat))] [] (nlM M (t + 1)) (o, t + 2, t + 2, 0, 0, L)).bind _ = _
  rw [k0, kf]
  show ev false 91 0 14 [pR 10 t] [pR 8 (t + 1), pR 10 t] (cM10 (nlM M (t + 1)) (t + 1)) (o, t + 3, t + 3, 2, 501, L) = _
  rw [q91i_14, if_pos (by exact rfl), if_pos (by exact ⟨h3, rfl, (by decide : 2 + 1 ≤ mcM 91), (by decide : 501 + 1 ≤ msM 91)⟩), if_pos (by exact ⟨(by decide : 3 + 1 ≤ mcM 91), (by decide : 502 + 500 ≤ msM 91)⟩)]
  show (ev false 10 0 0 [pR 8 (t + 3), pI (ii (120 : Nat))] [] (nlM (upM (cM10 (nlM M (t + 1)) (t + 1)) t 0 1) (t + 3)) (o, t + 4, t + 4, 0, 0, L)).bind _ = _
  rw [k14, kf]
  show ev false 91 0 27 [pR 10 t] [pR 8 (t + 3), pR 10 t] (cM10 (nlM (upM (cM10 (nlM M (t + 1)) (t + 1)) t 0 1) (t + 3)) (t + 3)) (o, t + 5, t + 5, 4, 1002, L) = _
  rw [q91i_27, if_pos (by exact rfl), if_pos (by exact ⟨h5, rfl, (by decide : 4 + 1 ≤ mcM 91), (by decide : 1002 + 1 ≤ msM 91)⟩), if_pos (by exact ⟨(by decide : 5 + 1 ≤ mcM 91), (by decide : 1003 + 500 ≤ msM 91)⟩)]
  show (ev false 10 0 0 [pR 8 (t + 5), pI (ii (6 : Nat))] [] (nlM (upM (cM10 (nlM (upM (cM10 (nlM M (t + 1)) (t + 1)) t 0 1) (t + 3)) (t + 3)) t 1 1) (t + 5)) (o, t + 6, t + 6, 0, 0, L)).bind _ = _
  rw [k27, kf]
  show ev false 91 0 40 [pR 10 t] [pR 8 (t + 5), pR 10 t] (cM10 (nlM (upM (cM10 (nlM (upM (cM10 (nlM M (t + 1)) (t + 1)) t 0 1) (t + 3)) (t + 3)) t 1 1) (t + 5)) (t + 5)) (o, t + 7, t + 7, 6, 1503, L) = _
  rw [q91i_40, if_pos (by exact rfl)]
  rfl
theorem AG91 (h : AG (t + 1) M M') : AG (t + 7) (cM91 M t) (cM91 M' t) := ag_up (AG10 (ag_nl (ag_up (AG10 (ag_nl (ag_up (AG10 (ag_nl (h)))))))))
theorem FR91 (h : b < t) : cM91 M t b = M b := by
  unfold cM91
  rw [upB (by omega), FR10 (by omega), nlB (by omega), upB (by omega), FR10 (by omega), nlB (by omega), upB (by omega), FR10 (by omega), nlB (by omega)]
def cM96 (M : Mem) (t : Nat) : Mem := upM (cM10 (nlM M (t + 1)) (t + 1)) t 0 1
def ok96 (t : Nat) : Bool := decide (tyA (t + 1) = 8) && (ok10 (t + 1) 280)
theorem K96 (h : ok96 t = true) : ∃ x y, ev false 96 0 0 [pR 11 t] [] M (o, t + 1, t + 1, 0, 0, L) = some (.inl none, cM96 M t, (o, t + 3, t + 3, x, y, L)) := by
  unfold ok96 at h
  simp only [Bool.and_eq_true, decide_eq_true_eq] at h
  obtain ⟨h1, h2⟩ := h
  obtain ⟨x0, y0, k0⟩ := K10 (M := nlM M (t + 1)) (o := o) (L := L) (t := t + 1) (n := 280) h2 (by omega)
  refine ⟨2, 501, ?_⟩
  rw [q96i_0, if_pos (by exact ⟨h1, rfl, (by decide : 0 + 1 ≤ mcM 96), (by decide : 0 + 1 ≤ msM 96)⟩), if_pos (by exact ⟨(by decide : 1 + 1 ≤ mcM 96), (by decide : 1 + 500 ≤ msM 96)⟩)]
  show (ev false 10 0 0 [pR 8 (t + 1), pI (ii (280 : Nat))] [] (nlM M (t + 1)) (o, t + 2, t + 2, 0, 0, L)).bind _ = _
  rw [k0, kf]
  show ev false 96 0 15 [pR 11 t] [pR 8 (t + 1), pR 11 t] (cM10 (nlM M (t + 1)) (t + 1)) (o, t + 3, t + 3, 2, 501, L) = _
  rw [q96i_15, if_pos (by exact rfl)]
  rfl
theorem AG96 (h : AG (t + 1) M M') : AG (t + 3) (cM96 M t) (cM96 M' t) := ag_up (AG10 (ag_nl (h)))
theorem FR96 (h : b < t) : cM96 M t b = M b := by
  unfold cM96
  rw [upB (by omega), FR10 (by omega), nlB (by omega)]
def cM99 (M : Mem) (t : Nat) : Mem := upM (cM10 (nlM (upM (cM10 (nlM (upM (cM10 (nlM (upM (cM10 (nlM M (t + 1)) (t + 1)) t 0 1) (t + 3)) (t + 3)) t 3 1) (t + 5)) (t + 5)) t 5 1) (t + 7)) (t + 7)) t 1 1
def ok99 (t n : Nat) : Bool := decide (tyA (t + 1) = 8) && (ok10 (t + 1) 8 && (decide (tyA (t + 3) = 8) && (ok10 (t + 3) 64 && (decide (tyA (t + 5) = 8) && (ok10 (t + 5) 64 && (decide (tyA (t + 7) = 8) && (ok10 (t + 7) n)))))))
theorem K99 (h : ok99 t n = true) (hn : 0 < n ∧ n ≤ 500) : ∃ x y, ev false 99 0 0 [pR 12 t, pI (ii n)] [] M (o, t + 1, t + 1, 0, 0, L) = some (.inl none, cM99 M t, (o, t + 9, t + 9, x, y, L)) := by
  unfold ok99 at h
  simp only [Bool.and_eq_true, decide_eq_true_eq] at h
  obtain ⟨h1, h2, h3, h4, h5, h6, h7, h8⟩ := h
  obtain ⟨x0, y0, k0⟩ := K10 (M := nlM M (t + 1)) (o := o) (L := L) (t := t + 1) (n := 8) h2 (by omega)
  obtain ⟨x14, y14, k14⟩ := K10 (M := nlM (upM (cM10 (nlM M (t + 1)) (t + 1)) t 0 1) (t + 3)) (o := o) (L := L) (t := t + 3) (n := 64) h4 (by omega)
  obtain ⟨x27, y27, k27⟩ := K10 (M := nlM (upM (cM10 (nlM (upM (cM10 (nlM M (t + 1)) (t + 1)) t 0 1) (t + 3)) (t + 3)) t 3 1) (t + 5)) (o := o) (L := L) (t := t + 5) (n := 64) h6 (by omega)
  obtain ⟨x40, y40, k40⟩ := K10 (M := nlM (upM (cM10 (nlM (upM (cM10 (nlM (upM (cM10 (nlM M (t + 1)) (t + 1)) t 0 1) (t + 3)) (t + 3)) t 3 1) (t + 5)) (t + 5)) t 5 1) (t + 7)) (o := o) (L := L) (t := t + 7) (n := n) h8 hn
  refine ⟨8, 2004, ?_⟩
  rw [q99i_0, if_pos (by exact ⟨h1, rfl, (by decide : 0 + 1 ≤ mcM 99), (by decide : 0 + 1 ≤ msM 99)⟩), if_pos (by exact ⟨(by decide : 1 + 1 ≤ mcM 99), (by decide : 1 + 500 ≤ msM 99)⟩)]
  show (ev false 10 0 0 [pR 8 (t + 1), pI (ii (8 : Nat))] [] (nlM M (t + 1)) (o, t + 2, t + 2, 0, 0, L)).bind _ = _
  rw [k0, kf]
  show ev false 99 0 14 [pR 12 t, pI (ii n)] [pR 8 (t + 1), pR 12 t] (cM10 (nlM M (t + 1)) (t + 1)) (o, t + 3, t + 3, 2, 501, L) = _
  rw [q99i_14, if_pos (by exact rfl), if_pos (by exact ⟨h3, rfl, (by decide : 2 + 1 ≤ mcM 99), (by decide : 501 + 1 ≤ msM 99)⟩), if_pos (by exact ⟨(by decide : 3 + 1 ≤ mcM 99), (by decide : 502 + 500 ≤ msM 99)⟩)]
  show (ev false 10 0 0 [pR 8 (t + 3), pI (ii (64 : Nat))] [] (nlM (upM (cM10 (nlM M (t + 1)) (t + 1)) t 0 1) (t + 3)) (o, t + 4, t + 4, 0, 0, L)).bind _ = _
  rw [k14, kf]
  show ev false 99 0 27 [pR 12 t, pI (ii n)] [pR 8 (t + 3), pR 12 t] (cM10 (nlM (upM (cM10 (nlM M (t + 1)) (t + 1)) t 0 1) (t + 3)) (t + 3)) (o, t + 5, t + 5, 4, 1002, L) = _
  rw [q99i_27, if_pos (by exact rfl), if_pos (by exact ⟨h5, rfl, (by decide : 4 + 1 ≤ mcM 99), (by decide : 1002 + 1 ≤ msM 99)⟩), if_pos (by exact ⟨(by decide : 5 + 1 ≤ mcM 99), (by decide : 1003 + 500 ≤ msM 99)⟩)]
  show (ev false 10 0 0 [pR 8 (t + 5), pI (ii (64 : Nat))] [] (nlM (upM (cM10 (nlM (upM (cM10 (nlM M (t + 1)) (t + 1)) t 0 1) (t + 3)) (t + 3)) t 3 1) (t + 5)) (o, t + 6, t + 6, 0, 0, L)).bind _ = _
  rw [k27, kf]
  show ev false 99 0 40 [pR 12 t, pI (ii n)] [pR 8 (t + 5), pR 12 t] (cM10 (nlM (upM (cM10 (nlM (upM (cM10 (nlM M (t + 1)) (t + 1)) t 0 1) (t + 3)) (t + 3)) t 3 1) (t + 5)) (t + 5)) (o, t + 7, t + 7, 6, 1503, L) = _
  rw [q99i_40, if_pos (by exact rfl), if_pos (by exact ⟨h7, rfl, (by decide : 6 + 1 ≤ mcM 99), (by decide : 1503 + 1 ≤ msM 99)⟩), if_pos (by exact ⟨(by decide : 7 + 1 ≤ mcM 99), (by decide : 1504 + 500 ≤ msM 99)⟩)]
  show (ev false 10 0 0 [pR 8 (t + 7), pI (ii n)] [] (nlM (upM (cM10 (nlM (upM (cM10 (nlM (upM (cM10 (nlM M (t + 1)) (t + 1)) t 0 1) (t + 3)) (t + 3)) t 3 1) (t + 5)) (t + 5)) t 5 1) (t + 7)) (o, t + 8, t + 8, 0, 0, L)).bind _ = _
  rw [k40, kf]
  show ev false 99 0 52 [pR 12 t, pI (ii n)] [pR 8 (t + 7), pR 12 t] (cM10 (nlM (upM (cM10 (nlM (upM (cM10 (nlM (upM (cM10 (nlM M (t + 1)) (t + 1)) t 0 1) (t + 3)) (t + 3)) t 3 1) (t + 5)) (t + 5)) t 5 1) (t + 7)) (t + 7)) (o, t + 9, t + 9, 8, 2004, L) = _
  rw [q99i_52, if_pos (by exact rfl)]
  rfl
theorem AG99 (h : AG (t + 1) M M') : AG (t + 9) (cM99 M t) (cM99 M' t) := ag_up (AG10 (ag_nl (ag_up (AG10 (ag_nl (ag_up (AG10 (ag_nl (ag_up (AG10 (ag_nl (h))))))))))))
theorem FR99 (h : b < t) : cM99 M t b = M b := by
  unfold cM99
  rw [upB (by omega), FR10 (by omega), nlB (by omega), upB (by omega), FR10 (by omega), nlB (by omega), upB (by omega), FR10 (by omega), nlB (by omega), upB (by omega), FR10 (by omega), nlB (by omega)]
def cM151 (M : Mem) (t : Nat) : Mem := upM (cM99 (nlM (upM (cM10 (nlM (upM (cM10 (nlM (upM (cM10 (nlM (upM (cM10 (nlM (upM (cM10 (nlM (upM (cM10 (nlM (upM (cM10 (nlM (upM (cM10 (nlM (upM (cM10 (nlM (upM (cM10 (nlM (upM (cM10 (nlM (upM (cM10 (nlM M (t + 1)) (t + 1)) t 2 1) (t + 3)) (t + 3)) t 3 1) (t + 5)) (t + 5)) t 5 1) (t + 7)) (t + 7)) t 6 1) (t + 9)) (t + 9)) t 8 1) (t + 11)) (t + 11)) t 9 1) (t + 13)) (t + 13)) t 10 1) (t + 15)) (t + 15)) t 11 1) (t + 17)) (t + 17)) t 13 1) (t + 19)) (t + 19)) t 14 1) (t + 21)) (t + 21)) t 15 1) (t + 23)) (t + 23)) t 16 1) (t + 25)) (t + 25)) t 18 1
def ok151 (t : Nat) : Bool := decide (tyA (t + 1) = 8) && (ok10 (t + 1) 6 && (decide (tyA (t + 3) = 8) && (ok10 (t + 3) 6 && (decide (tyA (t + 5) = 8) && (ok10 (t + 5) 8 && (decide (tyA (t + 7) = 8) && (ok10 (t + 7) 8 && (decide (tyA (t + 9) = 8) && (ok10 (t + 9) 6 && (decide (tyA (t + 11) = 8) && (ok10 (t + 11) 6 && (decide (tyA (t + 13) = 8) && (ok10 (t + 13) 6 && (decide (tyA (t + 15) = 8) && (ok10 (t + 15) 6 && (decide (tyA (t + 17) = 8) && (ok10 (t + 17) 12 && (decide (tyA (t + 19) = 8) && (ok10 (t + 19) 12 && (decide (tyA (t + 21) = 8) && (ok10 (t + 21) 12 && (decide (tyA (t + 23) = 8) && (ok10 (t + 23) 12 && (decide (tyA (t + 25) = 12) && (ok99 (t + 25) 500)))))))))))))))))))))))))
theorem K151 (h : ok151 t = true) : ∃ x y, ev false 151 0 0 [pR 5 t] [] M (o, t + 1, t + 1, 0, 0, L) = some (.inl none, cM151 M t, (o, t + 34, t + 34, x, y, L)) := by
  unfold ok151 at h
  simp only [Bool.and_eq_true, decide_eq_true_eq] at h
  obtain ⟨h1, h2, h3, h4, h5, h6, h7, h8, h9, h10, h11, h12, h13, h14, h15, h16, h17, h18, h19, h20, h21, h22, h23, h24, h25, h26⟩ := h
  obtain ⟨x0, y0, k0⟩ := K10 (M := nlM M (t + 1)) (o := o) (L := L) (t := t + 1) (n := 6) h2 (by omega)
  obtain ⟨x14, y14, k14⟩ := K10 (M := nlM (upM (cM10 (nlM M (t + 1)) (t + 1)) t 2 1) (t + 3)) (o := o) (L := L) (t := t + 3) (n := 6) h4 (by omega)
  obtain ⟨x27, y27, k27⟩ := K10 (M := nlM (upM (cM10 (nlM (upM (cM10 (nlM M (t + 1)) (t + 1)) t 2 1) (t + 3)) (t + 3)) t 3 1) (t + 5)) (o := o) (L := L) (t := t + 5) (n := 8) h6 (by omega)
  obtain ⟨x40, y40, k40⟩ := K10 (M := nlM (upM (cM10 (nlM (upM (cM10 (nlM (upM (cM10 (nlM M (t + 1)) (t + 1)) t 2 1) (t + 3)) (t + 3)) t 3 1) (t + 5)) (t + 5)) t 5 1) (t + 7)) (o := o) (L := L) (t := t + 7) (n := 8) h8 (by omega)
  obtain ⟨x53, y53, k53⟩ := K10 (M := nlM (upM (cM10 (nlM (upM (cM10 (nlM (upM (cM10 (nlM (upM (cM10 (nlM M (t + 1)) (t + 1)) t 2 1) (t + 3)) (t + 3)) t 3 1) (t + 5)) (t + 5)) t 5 1) (t + 7)) (t + 7)) t 6 1) (t + 9)) (o := o) (L := L) (t := t + 9) (n := 6) h10 (by omega)
  obtain ⟨x66, y66, k66⟩ := K10 (M := nlM (upM (cM10 (nlM (upM (cM10 (nlM (upM (cM10 (nlM (upM (cM10 (nlM (upM (cM10 (nlM M (t + 1)) (t + 1)) t 2 1) (t + 3)) (t + 3)) t 3 1) (t + 5)) (t + 5)) t 5 1) (t + 7)) (t + 7)) t 6 1) (t + 9)) (t + 9)) t 8 1) (t + 11)) (o := o) (L := L) (t := t + 11) (n := 6) h12 (by omega)
  obtain ⟨x79, y79, k79⟩ := K10 (M := nlM (upM (cM10 (nlM (upM (cM10 (nlM (upM (cM10 (nlM (upM (cM10 (nlM (upM (cM10 (nlM (upM (cM10 (nlM M (t + 1)) (t + 1)) t 2 1) (t + 3)) (t + 3)) t 3 1) (t + 5)) (t + 5)) t 5 1) (t + 7)) (t + 7)) t 6 1) (t + 9)) (t + 9)) t 8 1) (t + 11)) (t + 11)) t 9 1) (t + 13)) (o := o) (L := L) (t := t + 13) (n := 6) h14 (by omega)
  obtain ⟨x92, y92, k92⟩ := K10 (M := nlM (upM (cM10 (nlM (upM (cM10 (nlM (upM (cM10 (nlM (upM (cM10 (nlM (upM (cM10 (nlM (upM (cM10 (nlM (upM (cM10 (nlM M (t + 1)) (t + 1)) t 2 1) (t + 3)) (t + 3)) t 3 1) (t + 5)) (t + 5)) t 5 1) (t + 7)) (t + 7)) t 6 1) (t + 9)) (t + 9)) t 8 1) (t + 11)) (t + 11)) t 9 1) (t + 13)) (t + 13)) t 10 1) (t + 15)) (o := o) (L := L) (t := t + 15) (n := 6) h16 (by omega)
  obtain ⟨x105, y105, k105⟩ := K10 (M := nlM (upM (cM10 (nlM (upM (cM10 (nlM (upM (cM10 (nlM (upM (cM10 (nlM (upM (cM10 (nlM (upM (cM10 (nlM (upM (cM10 (nlM (upM (cM10 (nlM M (t + 1)) (t + 1)) t 2 1) (t + 3)) (t + 3)) t 3 1) (t + 5)) (t + 5)) t 5 1) (t + 7)) (t + 7)) t 6 1) (t + 9)) (t + 9)) t 8 1) (t + 11)) (t + 11)) t 9 1) (t + 13)) (t + 13)) t 10 1) (t + 15)) (t + 15)) t 11 1) (t + 17)) (o := o) (L := L) (t := t + 17) (n := 12) h18 (by omega)
  obtain ⟨x118, y118, k118⟩ := K10 (M := nlM (upM (cM10 (nlM (upM (cM10 (nlM (upM (cM10 (nlM (upM (cM10 (nlM (upM (cM10 (nlM (upM (cM10 (nlM (upM (cM10 (nlM (upM (cM10 (nlM (upM (cM10 (nlM M (t + 1)) (t + 1)) t 2 1) (t + 3)) (t + 3)) t 3 1) (t + 5)) (t + 5)) t 5 1) (t + 7)) (t + 7)) t 6 1) (t + 9)) (t + 9)) t 8 1) (t + 11)) (t + 11)) t 9 1) (t + 13)) (t + 13)) t 10 1) (t + 15)) (t + 15)) t 11 1) (t + 17)) (t + 17)) t 13 1) (t + 19)) (o := o) (L := L) (t := t + 19) (n := 12) h20 (by omega)
  obtain ⟨x131, y131, k131⟩ := K10 (M := nlM (upM (cM10 (nlM (upM (cM10 (nlM (upM (cM10 (nlM (upM (cM10 (nlM (upM (cM10 (nlM (upM (cM10 (nlM (upM (cM10 (nlM (upM (cM10 (nlM (upM (cM10 (nlM (upM (cM10 (nlM M (t + 1)) (t + 1)) t 2 1) (t + 3)) (t + 3)) t 3 1) (t + 5)) (t + 5)) t 5 1) (t + 7)) (t + 7)) t 6 1) (t + 9)) (t + 9)) t 8 1) (t + 11)) (t + 11)) t 9 1) (t + 13)) (t + 13)) t 10 1) (t + 15)) (t + 15)) t 11 1) (t + 17)) (t + 17)) t 13 1) (t + 19)) (t + 19)) t 14 1) (t + 21)) (o := o) (L := L) (t := t + 21) (n := 12) h22 (by omega)
  obtain ⟨x144, y144, k144⟩ := K10 (M := nlM (upM (cM10 (nlM (upM (cM10 (nlM (upM (cM10 (nlM (upM (cM10 (nlM (upM (cM10 (nlM (upM (cM10 (nlM (upM (cM10 (nlM (upM (cM10 (nlM (upM (cM10 (nlM (upM (cM10 (nlM (upM (cM10 (nlM M (t + 1)) (t + 1)) t 2 1) (t + 3)) (t + 3)) t 3 1) (t + 5)) (t + 5)) t 5 1) (t + 7)) (t + 7)) t 6 1) (t + 9)) (t + 9)) t 8 1) (t + 11)) (t + 11)) t 9 1) (t + 13)) (t + 13)) t 10 1) (t + 15)) (t + 15)) t 11 1) (t + 17)) (t + 17)) t 13 1) (t + 19)) (t + 19)) t 14 1) (t + 21)) (t + 21)) t 15 1) (t + 23)) (o := o) (L := L) (t := t + 23) (n := 12) h24 (by omega)
  obtain ⟨x157, y157, k157⟩ := K99 (M := nlM (upM (cM10 (nlM (upM (cM10 (nlM (upM (cM10 (nlM (upM (cM10 (nlM (upM (cM10 (nlM (upM (cM10 (nlM (upM (cM10 (nlM (upM (cM10 (nlM (upM (cM10 (nlM (upM (cM10 (nlM (upM (cM10 (nlM (upM (cM10 (nlM M (t + 1)) (t + 1)) t 2 1) (t + 3)) (t + 3)) t 3 1) (t + 5)) (t + 5)) t 5 1) (t + 7)) (t + 7)) t 6 1) (t + 9)) (t + 9)) t 8 1) (t + 11)) (t + 11)) t 9 1) (t + 13)) (t + 13)) t 10 1) (t + 15)) (t + 15)) t 11 1) (t + 17)) (t + 17)) t 13 1) (t + 19)) (t + 19)) t 14 1) (t + 21)) (t + 21)) t 15 1) (t + 23)) (t + 23)) t 16 1) (t + 25)) (o := o) (L := L) (t := t + 25) (n := 500) h26 (by omega)
  refine ⟨33, 8022, ?_⟩
  rw [q151i_0, if_pos (by exact ⟨h1, rfl, (by decide : 0 + 1 ≤ mcM 151), (by decide : 0 + 1 ≤ msM 151)⟩), if_pos (by exact ⟨(by decide : 1 + 1 ≤ mcM 151), (by decide : 1 + 500 ≤ msM 151)⟩)]
  show (ev false 10 0 0 [pR 8 (t + 1), pI (ii (6 : Nat))] [] (nlM M (t + 1)) (o, t + 2, t + 2, 0, 0, L)).bind _ = _
  rw [k0, kf]
  show ev false 151 0 14 [pR 5 t] [pR 8 (t + 1), pR 5 t] (cM10 (nlM M (t + 1)) (t + 1)) (o, t + 3, t + 3, 2, 501, L) = _
  rw [q151i_14, if_pos (by exact rfl), if_pos (by exact ⟨h3, rfl, (by decide : 2 + 1 ≤ mcM 151), (by decide : 501 + 1 ≤ msM 151)⟩), if_pos (by exact ⟨(by decide : 3 + 1 ≤ mcM 151), (by decide : 502 + 500 ≤ msM 151)⟩)]
  show (ev false 10 0 0 [pR 8 (t + 3), pI (ii (6 : Nat))] [] (nlM (upM (cM10 (nlM M (t + 1)) (t + 1)) t 2 1) (t + 3)) (o, t + 4, t + 4, 0, 0, L)).bind _ = _
  rw [k14, kf]
  show ev false 151 0 27 [pR 5 t] [pR 8 (t + 3), pR 5 t] (cM10 (nlM (upM (cM10 (nlM M (t + 1)) (t + 1)) t 2 1) (t + 3)) (t + 3)) (o, t + 5, t + 5, 4, 1002, L) = _
  rw [q151i_27, if_pos (by exact rfl), if_pos (by exact ⟨h5, rfl, (by decide : 4 + 1 ≤ mcM 151), (by decide : 1002 + 1 ≤ msM 151)⟩), if_pos (by exact ⟨(by decide : 5 + 1 ≤ mcM 151), (by decide : 1003 + 500 ≤ msM 151)⟩)]
  show (ev false 10 0 0 [pR 8 (t + 5), pI (ii (8 : Nat))] [] (nlM (upM (cM10 (nlM (upM (cM10 (nlM M (t + 1)) (t + 1)) t 2 1) (t + 3)) (t + 3)) t 3 1) (t + 5)) (o, t + 6, t + 6, 0, 0, L)).bind _ = _
  rw [k27, kf]
  show ev false 151 0 40 [pR 5 t] [pR 8 (t + 5), pR 5 t] (cM10 (nlM (upM (cM10 (nlM (upM (cM10 (nlM M (t + 1)) (t + 1)) t 2 1) (t + 3)) (t + 3)) t 3 1) (t + 5)) (t + 5)) (o, t + 7, t + 7, 6, 1503, L) = _
  rw [q151i_40, if_pos (by exact rfl), if_pos (by exact ⟨h7, rfl, (by decide : 6 + 1 ≤ mcM 151), (by decide : 1503 + 1 ≤ msM 151)⟩), if_pos (by exact ⟨(by decide : 7 + 1 ≤ mcM 151), (by decide : 1504 + 500 ≤ msM 151)⟩)]
  show (ev false 10 0 0 [pR 8 (t + 7), pI (ii (8 : Nat))] [] (nlM (upM (cM10 (nlM (upM (cM10 (nlM (upM (cM10 (nlM M (t + 1)) (t + 1)) t 2 1) (t + 3)) (t + 3)) t 3 1) (t + 5)) (t + 5)) t 5 1) (t + 7)) (o, t + 8, t + 8, 0, 0, L)).bind _ = _
  rw [k40, kf]
  show ev false 151 0 53 [pR 5 t] [pR 8 (t + 7), pR 5 t] (cM10 (nlM (upM (cM10 (nlM (upM (cM10 (nlM (upM (cM10 (nlM M (t + 1)) (t + 1)) t 2 1) (t + 3)) (t + 3)) t 3 1) (t + 5)) (t + 5)) t 5 1) (t + 7)) (t + 7)) (o, t + 9, t + 9, 8, 2004, L) = _
  rw [q151i_53, if_pos (by exact rfl), if_pos (by exact ⟨h9, rfl, (by decide : 8 + 1 ≤ mcM 151), (by decide : 2004 + 1 ≤ msM 151)⟩), if_pos (by exact ⟨(by decide : 9 + 1 ≤ mcM 151), (by decide : 2005 + 500 ≤ msM 151)⟩)]
  show (ev false 10 0 0 [pR 8 (t + 9), pI (ii (6 : Nat))] [] (nlM (upM (cM10 (nlM (upM (cM10 (nlM (upM (cM10 (nlM (upM (cM10 (nlM M (t + 1)) (t + 1)) t 2 1) (t + 3)) (t + 3)) t 3 1) (t + 5)) (t + 5)) t 5 1) (t + 7)) (t + 7)) t 6 1) (t + 9)) (o, t + 10, t + 10, 0, 0, L)).bind _ = _
  rw [k53, kf]
  show ev false 151 0 66 [pR 5 t] [pR 8 (t + 9), pR 5 t] (cM10 (nlM (upM (cM10 (nlM (upM (cM10 (nlM (upM (cM10 (nlM (upM (cM10 (nlM M (t + 1)) (t + 1)) t 2 1) (t + 3)) (t + 3)) t 3 1) (t + 5)) (t + 5)) t 5 1) (t + 7)) (t + 7)) t 6 1) (t + 9)) (t + 9)) (o, t + 11, t + 11, 10, 2505, L) = _
  rw [q151i_66, if_pos (by exact rfl), if_pos (by exact ⟨h11, rfl, (by decide : 10 + 1 ≤ mcM 151), (by decide : 2505 + 1 ≤ msM 151)⟩), if_pos (by exact ⟨(by decide : 11 + 1 ≤ mcM 151), (by decide : 2506 + 500 ≤ msM 151)⟩)]
  show (ev false 10 0 0 [pR 8 (t + 11), pI (ii (6 : Nat))] [] (nlM (upM (cM10 (nlM (upM (cM10 (nlM (upM (cM10 (nlM (upM (cM10 (nlM (upM (cM10 (nlM M (t + 1)) (t + 1)) t 2 1) (t + 3)) (t + 3)) t 3 1) (t + 5)) (t + 5)) t 5 1) (t + 7)) (t + 7)) t 6 1) (t + 9)) (t + 9)) t 8 1) (t + 11)) (o, t + 12, t + 12, 0, 0, L)).bind _ = _
  rw [k66, kf]
  show ev false 151 0 79 [pR 5 t] [pR 8 (t + 11), pR 5 t] (cM10 (nlM (upM (cM10 (nlM (upM (cM10 (nlM (upM (cM10 (nlM (upM (cM10 (nlM (upM (cM10 (nlM M (t + 1)) (t + 1)) t 2 1) (t + 3)) (t + 3)) t 3 1) (t + 5)) (t + 5)) t 5 1) (t + 7)) (t + 7)) t 6 1) (t + 9)) (t + 9)) t 8 1) (t + 11)) (t + 11)) (o, t + 13, t + 13, 12, 3006, L) = _
  rw [q151i_79, if_pos (by exact rfl), if_pos (by exact ⟨h13, rfl, (by decide : 12 + 1 ≤ mcM 151), (by decide : 3006 + 1 ≤ msM 151)⟩), if_pos (by exact ⟨(by decide : 13 + 1 ≤ mcM 151), (by decide : 3007 + 500 ≤ msM 151)⟩)]
  show (ev false 10 0 0 [pR 8 (t + 13), pI (ii (6 : Nat))] [] (nlM (upM (cM10 (nlM (upM (cM10 (nlM (upM (cM10 (nlM (upM (cM10 (nlM (upM (cM10 (nlM (upM (cM10 (nlM M (t + 1)) (t + 1)) t 2 1) (t + 3)) (t + 3)) t 3 1) (t + 5)) (t + 5)) t 5 1) (t + 7)) (t + 7)) t 6 1) (t + 9)) (t + 9)) t 8 1) (t + 11)) (t + 11)) t 9 1) (t + 13)) (o, t + 14, t + 14, 0, 0, L)).bind _ = _
  rw [k79, kf]
  show ev false 151 0 92 [pR 5 t] [pR 8 (t + 13), pR 5 t] (cM10 (nlM (upM (cM10 (nlM (upM (cM10 (nlM (upM (cM10 (nlM (upM (cM10 (nlM (upM (cM10 (nlM (upM (cM10 (nlM M (t + 1)) (t + 1)) t 2 1) (t + 3)) (t + 3)) t 3 1) (t + 5)) (t + 5)) t 5 1) (t + 7)) (t + 7)) t 6 1) (t + 9)) (t + 9)) t 8 1) (t + 11)) (t + 11)) t 9 1) (t + 13)) (t + 13)) (o, t + 15, t + 15, 14, 3507, L) = _
  rw [q151i_92, if_pos (by exact rfl), if_pos (by exact ⟨h15, rfl, (by decide : 14 + 1 ≤ mcM 151), (by decide : 3507 + 1 ≤ msM 151)⟩), if_pos (by exact ⟨(by decide : 15 + 1 ≤ mcM 151), (by decide : 3508 + 500 ≤ msM 151)⟩)]
  show (ev false 10 0 0 [pR 8 (t + 15), pI (ii (6 : Nat))] [] (nlM (upM (cM10 (nlM (upM (cM10 (nlM (upM (cM10 (nlM (upM (cM10 (nlM (upM (cM10 (nlM (upM (cM10 (nlM (upM (cM10 (nlM M (t + 1)) (t + 1)) t 2 1) (t + 3)) (t + 3)) t 3 1) (t + 5)) (t + 5)) t 5 1) (t + 7)) (t + 7)) t 6 1) (t + 9)) (t + 9)) t 8 1) (t + 11)) (t + 11)) t 9 1) (t + 13)) (t + 13)) t 10 1) (t + 15)) (o, t + 16, t + 16, 0, 0, L)).bind _ = _
  rw [k92, kf]
  show ev false 151 0 105 [pR 5 t] [pR 8 (t + 15), pR 5 t] (cM10 (nlM (upM (cM10 (nlM (upM (cM10 (nlM (upM (cM10 (nlM (upM (cM10 (nlM (upM (cM10 (nlM (upM (cM10 (nlM (upM (cM10 (nlM M (t + 1)) (t + 1)) t 2 1) (t + 3)) (t + 3)) t 3 1) (t + 5)) (t + 5)) t 5 1) (t + 7)) (t + 7)) t 6 1) (t + 9)) (t + 9)) t 8 1) (t + 11)) (t + 11)) t 9 1) (t + 13)) (t + 13)) t 10 1) (t + 15)) (t + 15)) (o, t + 17, t + 17, 16, 4008, L) = _
  rw [q151i_105, if_pos (by exact rfl), if_pos (by exact ⟨h17, rfl, (by decide : 16 + 1 ≤ mcM 151), (by decide : 4008 + 1 ≤ msM 151)⟩), if_pos (by exact ⟨(by decide : 17 + 1 ≤ mcM 151), (by decide : 4009 + 500 ≤ msM 151)⟩)]
  show (ev false 10 0 0 [pR 8 (t + 17), pI (ii (12 : Nat))] [] (nlM (upM (cM10 (nlM (upM (cM10 (nlM (upM (cM10 (nlM (upM (cM10 (nlM (upM (cM10 (nlM (upM (cM10 (nlM (upM (cM10 (nlM (upM (cM10 (nlM M (t + 1)) (t + 1)) t 2 1) (t + 3)) (t + 3)) t 3 1) (t + 5)) (t + 5)) t 5 1) (t + 7)) (t + 7)) t 6 1) (t + 9)) (t + 9)) t 8 1) (t + 11)) (t + 11)) t 9 1) (t + 13)) (t + 13)) t 10 1) (t + 15)) (t + 15)) t 11 1) (t + 17)) (o, t + 18, t + 18, 0, 0, L)).bind _ = _
  rw [k105, kf]
  show ev false 151 0 118 [pR 5 t] [pR 8 (t + 17), pR 5 t] (cM10 (nlM (upM (cM10 (nlM (upM (cM10 (nlM (upM (cM10 (nlM (upM (cM10 (nlM (upM (cM10 (nlM (upM (cM10 (nlM (upM (cM10 (nlM (upM (cM10 (nlM M (t + 1)) (t + 1)) t 2 1) (t + 3)) (t + 3)) t 3 1) (t + 5)) (t + 5)) t 5 1) (t + 7)) (t + 7)) t 6 1) (t + 9)) (t + 9)) t 8 1) (t + 11)) (t + 11)) t 9 1) (t + 13)) (t + 13)) t 10 1) (t + 15)) (t + 15)) t 11 1) (t + 17)) (t + 17)) (o, t + 19, t + 19, 18, 4509, L) = _
  rw [q151i_118, if_pos (by exact rfl), if_pos (by exact ⟨h19, rfl, (by decide : 18 + 1 ≤ mcM 151), (by decide : 4509 + 1 ≤ msM 151)⟩), if_pos (by exact ⟨(by decide : 19 + 1 ≤ mcM 151), (by decide : 4510 + 500 ≤ msM 151)⟩)]
  show (ev false 10 0 0 [pR 8 (t + 19), pI (ii (12 : Nat))] [] (nlM (upM (cM10 (nlM (upM (cM10 (nlM (upM (cM10 (nlM (upM (cM10 (nlM (upM (cM10 (nlM (upM (cM10 (nlM (upM (cM10 (nlM (upM (cM10 (nlM (upM (cM10 (nlM M (t + 1)) (t + 1)) t 2 1) (t + 3)) (t + 3)) t 3 1) (t + 5)) (t + 5)) t 5 1) (t + 7)) (t + 7)) t 6 1) (t + 9)) (t + 9)) t 8 1) (t + 11)) (t + 11)) t 9 1) (t + 13)) (t + 13)) t 10 1) (t + 15)) (t + 15)) t 11 1) (t + 17)) (t + 17)) t 13 1) (t + 19)) (o, t + 20, t + 20, 0, 0, L)).bind _ = _
  rw [k118, kf]
  show ev false 151 0 131 [pR 5 t] [pR 8 (t + 19), pR 5 t] (cM10 (nlM (upM (cM10 (nlM (upM (cM10 (nlM (upM (cM10 (nlM (upM (cM10 (nlM (upM (cM10 (nlM (upM (cM10 (nlM (upM (cM10 (nlM (upM (cM10 (nlM (upM (cM10 (nlM M (t + 1)) (t + 1)) t 2 1) (t + 3)) (t + 3)) t 3 1) (t + 5)) (t + 5)) t 5 1) (t + 7)) (t + 7)) t 6 1) (t + 9)) (t + 9)) t 8 1) (t + 11)) (t + 11)) t 9 1) (t + 13)) (t + 13)) t 10 1) (t + 15)) (t + 15)) t 11 1) (t + 17)) (t + 17)) t 13 1) (t + 19)) (t + 19)) (o, t + 21, t + 21, 20, 5010, L) = _
  rw [q151i_131, if_pos (by exact rfl), if_pos (by exact ⟨h21, rfl, (by decide : 20 + 1 ≤ mcM 151), (by decide : 5010 + 1 ≤ msM 151)⟩), if_pos (by exact ⟨(by decide : 21 + 1 ≤ mcM 151), (by decide : 5011 + 500 ≤ msM 151)⟩)]
  show (ev false 10 0 0 [pR 8 (t + 21), pI (ii (12 : Nat))] [] (nlM (upM (cM10 (nlM (upM (cM10 (nlM (upM (cM10 (nlM (upM (cM10 (nlM (upM (cM10 (nlM (upM (cM10 (nlM (upM (cM10 (nlM (upM (cM10 (nlM (upM (cM10 (nlM (upM (cM10 (nlM M (t + 1)) (t + 1)) t 2 1) (t + 3)) (t + 3)) t 3 1) (t + 5)) (t + 5)) t 5 1) (t + 7)) (t + 7)) t 6 1) (t + 9)) (t + 9)) t 8 1) (t + 11)) (t + 11)) t 9 1) (t + 13)) (t + 13)) t 10 1) (t + 15)) (t + 15)) t 11 1) (t + 17)) (t + 17)) t 13 1) (t + 19)) (t + 19)) t 14 1) (t + 21)) (o, t + 22, t + 22, 0, 0, L)).bind _ = _
  rw [k131, kf]
  show ev false 151 0 144 [pR 5 t] [pR 8 (t + 21), pR 5 t] (cM10 (nlM (upM (cM10 (nlM (upM (cM10 (nlM (upM (cM10 (nlM (upM (cM10 (nlM (upM (cM10 (nlM (upM (cM10 (nlM (upM (cM10 (nlM (upM (cM10 (nlM (upM (cM10 (nlM (upM (cM10 (nlM M (t + 1)) (t + 1)) t 2 1) (t + 3)) (t + 3)) t 3 1) (t + 5)) (t + 5)) t 5 1) (t + 7)) (t + 7)) t 6 1) (t + 9)) (t + 9)) t 8 1) (t + 11)) (t + 11)) t 9 1) (t + 13)) (t + 13)) t 10 1) (t + 15)) (t + 15)) t 11 1) (t + 17)) (t + 17)) t 13 1) (t + 19)) (t + 19)) t 14 1) (t + 21)) (t + 21)) (o, t + 23, t + 23, 22, 5511, L) = _
  rw [q151i_144, if_pos (by exact rfl), if_pos (by exact ⟨h23, rfl, (by decide : 22 + 1 ≤ mcM 151), (by decide : 5511 + 1 ≤ msM 151)⟩), if_pos (by exact ⟨(by decide : 23 + 1 ≤ mcM 151), (by decide : 5512 + 500 ≤ msM 151)⟩)]
  show (ev false 10 0 0 [pR 8 (t + 23), pI (ii (12 : Nat))] [] (nlM (upM (cM10 (nlM (upM (cM10 (nlM (upM (cM10 (nlM (upM (cM10 (nlM (upM (cM10 (nlM (upM (cM10 (nlM (upM (cM10 (nlM (upM (cM10 (nlM (upM (cM10 (nlM (upM (cM10 (nlM (upM (cM10 (nlM M (t + 1)) (t + 1)) t 2 1) (t + 3)) (t + 3)) t 3 1) (t + 5)) (t + 5)) t 5 1) (t + 7)) (t + 7)) t 6 1) (t + 9)) (t + 9)) t 8 1) (t + 11)) (t + 11)) t 9 1) (t + 13)) (t + 13)) t 10 1) (t + 15)) (t + 15)) t 11 1) (t + 17)) (t + 17)) t 13 1) (t + 19)) (t + 19)) t 14 1) (t + 21)) (t + 21)) t 15 1) (t + 23)) (o, t + 24, t + 24, 0, 0, L)).bind _ = _
  rw [k144, kf]
  show ev false 151 0 157 [pR 5 t] [pR 8 (t + 23), pR 5 t] (cM10 (nlM (upM (cM10 (nlM (upM (cM10 (nlM (upM (cM10 (nlM (upM (cM10 (nlM (upM (cM10 (nlM (upM (cM10 (nlM (upM (cM10 (nlM (upM (cM10 (nlM (upM (cM10 (nlM (upM (cM10 (nlM (upM (cM10 (nlM M (t + 1)) (t + 1)) t 2 1) (t + 3)) (t + 3)) t 3 1) (t + 5)) (t + 5)) t 5 1) (t + 7)) (t + 7)) t 6 1) (t + 9)) (t + 9)) t 8 1) (t + 11)) (t + 11)) t 9 1) (t + 13)) (t + 13)) t 10 1) (t + 15)) (t + 15)) t 11 1) (t + 17)) (t + 17)) t 13 1) (t + 19)) (t + 19)) t 14 1) (t + 21)) (t + 21)) t 15 1) (t + 23)) (t + 23)) (o, t + 25, t + 25, 24, 6012, L) = _
  rw [q151i_157, if_pos (by exact rfl), if_pos (by exact ⟨h25, rfl, (by decide : 24 + 1 ≤ mcM 151), (by decide : 6012 + 6 ≤ msM 151)⟩), if_pos (by exact ⟨(by decide : 25 + 8 ≤ mcM 151), (by decide : 6018 + 2004 ≤ msM 151)⟩)]
  show (ev false 99 0 0 [pR 12 (t + 25), pI (ii (500 : Nat))] [] (nlM (upM (cM10 (nlM (upM (cM10 (nlM (upM (cM10 (nlM (upM (cM10 (nlM (upM (cM10 (nlM (upM (cM10 (nlM (upM (cM10 (nlM (upM (cM10 (nlM (upM (cM10 (nlM (upM (cM10 (nlM (upM (cM10 (nlM (upM (cM10 (nlM M (t + 1)) (t + 1)) t 2 1) (t + 3)) (t + 3)) t 3 1) (t + 5)) (t + 5)) t 5 1) (t + 7)) (t + 7)) t 6 1) (t + 9)) (t + 9)) t 8 1) (t + 11)) (t + 11)) t 9 1) (t + 13)) (t + 13)) t 10 1) (t + 15)) (t + 15)) t 11 1) (t + 17)) (t + 17)) t 13 1) (t + 19)) (t + 19)) t 14 1) (t + 21)) (t + 21)) t 15 1) (t + 23)) (t + 23)) t 16 1) (t + 25)) (o, t + 26, t + 26, 0, 0, L)).bind _ = _
  rw [k157, kf]
  show ev false 151 0 171 [pR 5 t] [pR 12 (t + 25), pR 5 t] (cM99 (nlM (upM (cM10 (nlM (upM (cM10 (nlM (upM (cM10 (nlM (upM (cM10 (nlM (upM (cM10 (nlM (upM (cM10 (nlM (upM (cM10 (nlM (upM (cM10 (nlM (upM (cM10 (nlM (upM (cM10 (nlM (upM (cM10 (nlM (upM (cM10 (nlM M (t + 1)) (t + 1)) t 2 1) (t + 3)) (t + 3)) t 3 1) (t + 5)) (t + 5)) t 5 1) (t + 7)) (t + 7)) t 6 1) (t + 9)) (t + 9)) t 8 1) (t + 11)) (t + 11)) t 9 1) (t + 13)) (t + 13)) t 10 1) (t + 15)) (t + 15)) t 11 1) (t + 17)) (t + 17)) t 13 1) (t + 19)) (t + 19)) t 14 1) (t + 21)) (t + 21)) t 15 1) (t + 23)) (t + 23)) t 16 1) (t + 25)) (t + 25)) (o, t + 34, t + 34, 33, 8022, L) = _
  rw [q151i_171, if_pos (by exact rfl)]
  rfl
theorem AG151 (h : AG (t + 1) M M') : AG (t + 34) (cM151 M t) (cM151 M' t) := ag_up (AG99 (ag_nl (ag_up (AG10 (ag_nl (ag_up (AG10 (ag_nl (ag_up (AG10 (ag_nl (ag_up (AG10 (ag_nl (ag_up (AG10 (ag_nl (ag_up (AG10 (ag_nl (ag_up (AG10 (ag_nl (ag_up (AG10 (ag_nl (ag_up (AG10 (ag_nl (ag_up (AG10 (ag_nl (ag_up (AG10 (ag_nl (ag_up (AG10 (ag_nl (h)))))))))))))))))))))))))))))))))))))))
theorem FR151 (h : b < t) : cM151 M t b = M b := by
  unfold cM151
  rw [upB (by omega), FR99 (by omega), nlB (by omega), upB (by omega), FR10 (by omega), nlB (by omega), upB (by omega), FR10 (by omega), nlB (by omega), upB (by omega), FR10 (by omega), nlB (by omega), upB (by omega), FR10 (by omega), nlB (by omega), upB (by omega), FR10 (by omega), nlB (by omega), upB (by omega), FR10 (by omega), nlB (by omega), upB (by omega), FR10 (by omega), nlB (by omega), upB (by omega), FR10 (by omega), nlB (by omega), upB (by omega), FR10 (by omega), nlB (by omega), upB (by omega), FR10 (by omega), nlB (by omega), upB (by omega), FR10 (by omega), nlB (by omega), upB (by omega), FR10 (by omega), nlB (by omega)]
def cM154 (M : Mem) (t : Nat) : Mem := upM (upM (cM96 (nlM (upM (cM10 (nlM (upM (cM10 (nlM (upM (cM10 (nlM (upM (cM10 (nlM (upM (cM10 (nlM (upM (cM10 (nlM (upM (cM10 (nlM (upM (cM10 (nlM (upM (cM10 (nlM (upM (cM10 (nlM (upM (cM10 (nlM (upM (cM10 (nlM (upM (cM10 (nlM (upM (cM91 (nlM (upM (cM75 (nlM M (t + 1)) (t + 1)) t 1 1) (t + 14)) (t + 14)) t 2 1) (t + 21)) (t + 21)) t 3 1) (t + 23)) (t + 23)) t 4 1) (t + 25)) (t + 25)) t 5 1) (t + 27)) (t + 27)) t 6 1) (t + 29)) (t + 29)) t 7 1) (t + 31)) (t + 31)) t 8 1) (t + 33)) (t + 33)) t 9 1) (t + 35)) (t + 35)) t 10 1) (t + 37)) (t + 37)) t 11 1) (t + 39)) (t + 39)) t 12 1) (t + 41)) (t + 41)) t 13 1) (t + 43)) (t + 43)) t 14 1) (t + 45)) (t + 45)) t 15 1) (t + 47)) (t + 47)) t 16 1) t 17 (-1)
def ok154 (t : Nat) : Bool := decide (tyA (t + 1) = 9) && (ok75 (t + 1) && (decide (tyA (t + 14) = 10) && (ok91 (t + 14) && (decide (tyA (t + 21) = 8) && (ok10 (t + 21) 6 && (decide (tyA (t + 23) = 8) && (ok10 (t + 23) 6 && (decide (tyA (t + 25) = 8) && (ok10 (t + 25) 6 && (decide (tyA (t + 27) = 8) && (ok10 (t + 27) 6 && (decide (tyA (t + 29) = 8) && (ok10 (t + 29) 6 && (decide (tyA (t + 31) = 8) && (ok10 (t + 31) 6 && (decide (tyA (t + 33) = 8) && (ok10 (t + 33) 6 && (decide (tyA (t + 35) = 8) && (ok10 (t + 35) 6 && (decide (tyA (t + 37) = 8) && (ok10 (t + 37) 6 && (decide (tyA (t + 39) = 8) && (ok10 (t + 39) 6 && (decide (tyA (t + 41) = 8) && (ok10 (t + 41) 6 && (decide (tyA (t + 43) = 8) && (ok10 (t + 43) 6 && (decide (tyA (t + 45) = 8) && (ok10 (t + 45) 8 && (decide (tyA (t + 47) = 11) && (ok96 (t + 47))))))))))))))))))))))))))))))))
theorem K154 (h : ok154 t = true) : ∃ x y, ev false 154 0 0 [pR 6 t] [] M (o, t + 1, t + 1, 0, 0, L) = some (.inl none, cM154 M t, (o, t + 50, t + 50, x, y, L)) := by
  unfold ok154 at h
  simp only [Bool.and_eq_true, decide_eq_true_eq] at h
  obtain ⟨h1, h2, h3, h4, h5, h6, h7, h8, h9, h10, h11, h12, h13, h14, h15, h16, h17, h18, h19, h20, h21, h22, h23, h24, h25, h26, h27, h28, h29, h30, h31, h32⟩ := h
  obtain ⟨x0, y0, k0⟩ := K75 (M := nlM M (t + 1)) (o := o) (L := L) (t := t + 1) h2
  obtain ⟨x12, y12, k12⟩ := K91 (M := nlM (upM (cM75 (nlM M (t + 1)) (t + 1)) t 1 1) (t + 14)) (o := o) (L := L) (t := t + 14) h4
  obtain ⟨x23, y23, k23⟩ := K10 (M := nlM (upM (cM91 (nlM (upM (cM75 (nlM M (t + 1)) (t + 1)) t 1 1) (t + 14)) (t + 14)) t 2 1) (t + 21)) (o := o) (L := L) (t := t + 21) (n := 6) h6 (by omega)
  obtain ⟨x36, y36, k36⟩ := K10 (M := nlM (upM (cM10 (nlM (upM (cM91 (nlM (upM (cM75 (nlM M (t + 1)) (t + 1)) t 1 1) (t + 14)) (t + 14)) t 2 1) (t + 21)) (t + 21)) t 3 1) (t + 23)) (o := o) (L := L) (t := t + 23) (n := 6) h8 (by omega)
  obtain ⟨x49, y49, k49⟩ := K10 (M := nlM (upM (cM10 (nlM (upM (cM10 (nlM (upM (cM91 (nlM (upM (cM75 (nlM M (t + 1)) (t + 1)) t 1 1) (t + 14)) (t + 14)) t 2 1) (t + 21)) (t + 21)) t 3 1) (t + 23)) (t + 23)) t 4 1) (t + 25)) (o := o) (L := L) (t := t + 25) (n := 6) h10 (by omega)
  obtain ⟨x62, y62, k62⟩ := K10 (M := nlM (upM (cM10 (nlM (upM (cM10 (nlM (upM (cM10 (nlM (upM (cM91 (nlM (upM (cM75 (nlM M (t + 1)) (t + 1)) t 1 1) (t + 14)) (t + 14)) t 2 1) (t + 21)) (t + 21)) t 3 1) (t + 23)) (t + 23)) t 4 1) (t + 25)) (t + 25)) t 5 1) (t + 27)) (o := o) (L := L) (t := t + 27) (n := 6) h12 (by omega)
  obtain ⟨x75, y75, k75⟩ := K10 (M := nlM (upM (cM10 (nlM (upM (cM10 (nlM (upM (cM10 (nlM (upM (cM10 (nlM (upM (cM91 (nlM (upM (cM75 (nlM M (t + 1)) (t + 1)) t 1 1) (t + 14)) (t + 14)) t 2 1) (t + 21)) (t + 21)) t 3 1) (t + 23)) (t + 23)) t 4 1) (t + 25)) (t + 25)) t 5 1) (t + 27)) (t + 27)) t 6 1) (t + 29)) (o := o) (L := L) (t := t + 29) (n := 6) h14 (by omega)
  obtain ⟨x88, y88, k88⟩ := K10 (M := nlM (upM (cM10 (nlM (upM (cM10 (nlM (upM (cM10 (nlM (upM (cM10 (nlM (upM (cM10 (nlM (upM (cM91 (nlM (upM (cM75 (nlM M (t + 1)) (t + 1)) t 1 1) (t + 14)) (t + 14)) t 2 1) (t + 21)) (t + 21)) t 3 1) (t + 23)) (t + 23)) t 4 1) (t + 25)) (t + 25)) t 5 1) (t + 27)) (t + 27)) t 6 1) (t + 29)) (t + 29)) t 7 1) (t + 31)) (o := o) (L := L) (t := t + 31) (n := 6) h16 (by omega)
  obtain ⟨x101, y101, k101⟩ := K10 (M := nlM (upM (cM10 (nlM (upM (cM10 (nlM (upM (cM10 (nlM (upM (cM10 (nlM (upM (cM10 (nlM (upM (cM10 (nlM (upM (cM91 (nlM (upM (cM75 (nlM M (t + 1)) (t + 1)) t 1 1) (t + 14)) (t + 14)) t 2 1) (t + 21)) (t + 21)) t 3 1) (t + 23)) (t + 23)) t 4 1) (t + 25)) (t + 25)) t 5 1) (t + 27)) (t + 27)) t 6 1) (t + 29)) (t + 29)) t 7 1) (t + 31)) (t + 31)) t 8 1) (t + 33)) (o := o) (L := L) (t := t + 33) (n := 6) h18 (by omega)
  obtain ⟨x114, y114, k114⟩ := K10 (M := nlM (upM (cM10 (nlM (upM (cM10 (nlM (upM (cM10 (nlM (upM (cM10 (nlM (upM (cM10 (nlM (upM (cM10 (nlM (upM (cM10 (nlM (upM (cM91 (nlM (upM (cM75 (nlM M (t + 1)) (t + 1)) t 1 1) (t + 14)) (t + 14)) t 2 1) (t + 21)) (t + 21)) t 3 1) (t + 23)) (t + 23)) t 4 1) (t + 25)) (t + 25)) t 5 1) (t + 27)) (t + 27)) t 6 1) (t + 29)) (t + 29)) t 7 1) (t + 31)) (t + 31)) t 8 1) (t + 33)) (t + 33)) t 9 1) (t + 35)) (o := o) (L := L) (t := t + 35) (n := 6) h20 (by omega)
  obtain ⟨x127, y127, k127⟩ := K10 (M := nlM (upM (cM10 (nlM (upM (cM10 (nlM (upM (cM10 (nlM (upM (cM10 (nlM (upM (cM10 (nlM (upM (cM10 (nlM (upM (cM10 (nlM (upM (cM10 (nlM (upM (cM91 (nlM (upM (cM75 (nlM M (t + 1)) (t + 1)) t 1 1) (t + 14)) (t + 14)) t 2 1) (t + 21)) (t + 21)) t 3 1) (t + 23)) (t + 23)) t 4 1) (t + 25)) (t + 25)) t 5 1) (t + 27)) (t + 27)) t 6 1) (t + 29)) (t + 29)) t 7 1) (t + 31)) (t + 31)) t 8 1) (t + 33)) (t + 33)) t 9 1) (t + 35)) (t + 35)) t 10 1) (t + 37)) (o := o) (L := L) (t := t + 37) (n := 6) h22 (by omega)
  obtain ⟨x140, y140, k140⟩ := K10 (M := nlM (upM (cM10 (nlM (upM (cM10 (nlM (upM (cM10 (nlM (upM (cM10 (nlM (upM (cM10 (nlM (upM (cM10 (nlM (upM (cM10 (nlM (upM (cM10 (nlM (upM (cM10 (nlM (upM (cM91 (nlM (upM (cM75 (nlM M (t + 1)) (t + 1)) t 1 1) (t + 14)) (t + 14)) t 2 1) (t + 21)) (t + 21)) t 3 1) (t + 23)) (t + 23)) t 4 1) (t + 25)) (t + 25)) t 5 1) (t + 27)) (t + 27)) t 6 1) (t + 29)) (t + 29)) t 7 1) (t + 31)) (t + 31)) t 8 1) (t + 33)) (t + 33)) t 9 1) (t + 35)) (t + 35)) t 10 1) (t + 37)) (t + 37)) t 11 1) (t + 39)) (o := o) (L := L) (t := t + 39) (n := 6) h24 (by omega)
  obtain ⟨x153, y153, k153⟩ := K10 (M := nlM (upM (cM10 (nlM (upM (cM10 (nlM (upM (cM10 (nlM (upM (cM10 (nlM (upM (cM10 (nlM (upM (cM10 (nlM (upM (cM10 (nlM (upM (cM10 (nlM (upM (cM10 (nlM (upM (cM10 (nlM (upM (cM91 (nlM (upM (cM75 (nlM M (t + 1)) (t + 1)) t 1 1) (t + 14)) (t + 14)) t 2 1) (t + 21)) (t + 21)) t 3 1) (t + 23)) (t + 23)) t 4 1) (t + 25)) (t + 25)) t 5 1) (t + 27)) (t + 27)) t 6 1) (t + 29)) (t + 29)) t 7 1) (t + 31)) (t + 31)) t 8 1) (t + 33)) (t + 33)) t 9 1) (t + 35)) (t + 35)) t 10 1) (t + 37)) (t + 37)) t 11 1) (t + 39)) (t + 39)) t 12 1) (t + 41)) (o := o) (L := L) (t := t + 41) (n := 6) h26 (by omega)
  obtain ⟨x166, y166, k166⟩ := K10 (M := nlM (upM (cM10 (nlM (upM (cM10 (nlM (upM (cM10 (nlM (upM (cM10 (nlM (upM (cM10 (nlM (upM (cM10 (nlM (upM (cM10 (nlM (upM (cM10 (nlM (upM (cM10 (nlM (upM (cM10 (nlM (upM (cM10 (nlM (upM (cM91 (nlM (upM (cM75 (nlM M (t + 1)) (t + 1)) t 1 1) (t + 14)) (t + 14)) t 2 1) (t + 21)) (t + 21)) t 3 1) (t + 23)) (t + 23)) t 4 1) (t + 25)) (t + 25)) t 5 1) (t + 27)) (t + 27)) t 6 1) (t + 29)) (t + 29)) t 7 1) (t + 31)) (t + 31)) t 8 1) (t + 33)) (t + 33)) t 9 1) (t + 35)) (t + 35)) t 10 1) (t + 37)) (t + 37)) t 11 1) (t + 39)) (t + 39)) t 12 1) (t + 41)) (t + 41)) t 13 1) (t + 43)) (o := o) (L := L) (t := t + 43) (n := 6) h28 (by omega)
  obtain ⟨x179, y179, k179⟩ := K10 (M := nlM (upM (cM10 (nlM (upM (cM10 (nlM (upM (cM10 (nlM (upM (cM10 (nlM (upM (cM10 (nlM (upM (cM10 (nlM (upM (cM10 (nlM (upM (cM10 (nlM (upM (cM10 (nlM (upM (cM10 (nlM (upM (cM10 (nlM (upM (cM10 (nlM (upM (cM91 (nlM (upM (cM75 (nlM M (t + 1)) (t + 1)) t 1 1) (t + 14)) (t + 14)) t 2 1) (t + 21)) (t + 21)) t 3 1) (t + 23)) (t + 23)) t 4 1) (t + 25)) (t + 25)) t 5 1) (t + 27)) (t + 27)) t 6 1) (t + 29)) (t + 29)) t 7 1) (t + 31)) (t + 31)) t 8 1) (t + 33)) (t + 33)) t 9 1) (t + 35)) (t + 35)) t 10 1) (t + 37)) (t + 37)) t 11 1) (t + 39)) (t + 39)) t 12 1) (t + 41)) (t + 41)) t 13 1) (t + 43)) (t + 43)) t 14 1) (t + 45)) (o := o) (L := L) (t := t + 45) (n := 8) h30 (by omega)
  obtain ⟨x192, y192, k192⟩ := K96 (M := nlM (upM (cM10 (nlM (upM (cM10 (nlM (upM (cM10 (nlM (upM (cM10 (nlM (upM (cM10 (nlM (upM (cM10 (nlM (upM (cM10 (nlM (upM (cM10 (nlM (upM (cM10 (nlM (upM (cM10 (nlM (upM (cM10 (nlM (upM (cM10 (nlM (upM (cM10 (nlM (upM (cM91 (nlM (upM (cM75 (nlM M (t + 1)) (t + 1)) t 1 1) (t + 14)) (t + 14)) t 2 1) (t + 21)) (t + 21)) t 3 1) (t + 23)) (t + 23)) t 4 1) (t + 25)) (t + 25)) t 5 1) (t + 27)) (t + 27)) t 6 1) (t + 29)) (t + 29)) t 7 1) (t + 31)) (t + 31)) t 8 1) (t + 33)) (t + 33)) t 9 1) (t + 35)) (t + 35)) t 10 1) (t + 37)) (t + 37)) t 11 1) (t + 39)) (t + 39)) t 12 1) (t + 41)) (t + 41)) t 13 1) (t + 43)) (t + 43)) t 14 1) (t + 45)) (t + 45)) t 15 1) (t + 47)) (o := o) (L := L) (t := t + 47) h32
  refine ⟨49, 11537, ?_⟩
  rw [q154i_0, if_pos (by exact ⟨h1, rfl, (by decide : 0 + 1 ≤ mcM 154), (by decide : 0 + 8 ≤ msM 154)⟩), if_pos (by exact ⟨(by decide : 1 + 12 ≤ mcM 154), (by decide : 8 + 3006 ≤ msM 154)⟩)]
  show (ev false 75 0 0 [pR 9 (t + 1)] [] (nlM M (t + 1)) (o, t + 2, t + 2, 0, 0, L)).bind _ = _
  rw [k0, kf]
  show ev false 154 0 12 [pR 6 t] [pR 9 (t + 1), pR 6 t] (cM75 (nlM M (t + 1)) (t + 1)) (o, t + 14, t + 14, 13, 3014, L) = _
  rw [q154i_12, if_pos (by exact rfl), if_pos (by exact ⟨h3, rfl, (by decide : 13 + 1 ≤ mcM 154), (by decide : 3014 + 3 ≤ msM 154)⟩), if_pos (by exact ⟨(by decide : 14 + 6 ≤ mcM 154), (by decide : 3017 + 1503 ≤ msM 154)⟩)]
  show (ev false 91 0 0 [pR 10 (t + 14)] [] (nlM (upM (cM75 (nlM M (t + 1)) (t + 1)) t 1 1) (t + 14)) (o, t + 15, t + 15, 0, 0, L)).bind _ = _
  rw [k12, kf]
  show ev false 154 0 23 [pR 6 t] [pR 10 (t + 14), pR 6 t] (cM91 (nlM (upM (cM75 (nlM M (t + 1)) (t + 1)) t 1 1) (t + 14)) (t + 14)) (o, t + 21, t + 21, 20, 4520, L) = _
  rw [q154i_23, if_pos (by exact rfl), if_pos (by exact ⟨h5, rfl, (by decide : 20 + 1 ≤ mcM 154), (by decide : 4520 + 1 ≤ msM 154)⟩), if_pos (by exact ⟨(by decide : 21 + 1 ≤ mcM 154), (by decide : 4521 + 500 ≤ msM 154)⟩)]
  show (ev false 10 0 0 [pR 8 (t + 21), pI (ii (6 : Nat))] [] (nlM (upM (cM91 (nlM (upM (cM75 (nlM M (t + 1)) (t + 1)) t 1 1) (t + 14)) (t + 14)) t 2 1) (t + 21)) (o, t + 22, t + 22, 0, 0, L)).bind _ = _
  rw [k23, kf]
  show ev false 154 0 36 [pR 6 t] [pR 8 (t + 21), pR 6 t] (cM10 (nlM (upM (cM91 (nlM (upM (cM75 (nlM M (t + 1)) (t + 1)) t 1 1) (t + 14)) (t + 14)) t 2 1) (t + 21)) (t + 21)) (o, t + 23, t + 23, 22, 5021, L) = _
  rw [q154i_36, if_pos (by exact rfl), if_pos (by exact ⟨h7, rfl, (by decide : 22 + 1 ≤ mcM 154), (by decide : 5021 + 1 ≤ msM 154)⟩), if_pos (by exact ⟨(by decide : 23 + 1 ≤ mcM 154), (by decide : 5022 + 500 ≤ msM 154)⟩)]
  show (ev false 10 0 0 [pR 8 (t + 23), pI (ii (6 : Nat))] [] (nlM (upM (cM10 (nlM (upM (cM91 (nlM (upM (cM75 (nlM M (t + 1)) (t + 1)) t 1 1) (t + 14)) (t + 14)) t 2 1) (t + 21)) (t + 21)) t 3 1) (t + 23)) (o, t + 24, t + 24, 0, 0, L)).bind _ = _
  rw [k36, kf]
  show ev false 154 0 49 [pR 6 t] [pR 8 (t + 23), pR 6 t] (cM10 (nlM (upM (cM10 (nlM (upM (cM91 (nlM (upM (cM75 (nlM M (t + 1)) (t + 1)) t 1 1) (t + 14)) (t + 14)) t 2 1) (t + 21)) (t + 21)) t 3 1) (t + 23)) (t + 23)) (o, t + 25, t + 25, 24, 5522, L) = _
  rw [q154i_49, if_pos (by exact rfl), if_pos (by exact ⟨h9, rfl, (by decide : 24 + 1 ≤ mcM 154), (by decide : 5522 + 1 ≤ msM 154)⟩), if_pos (by exact ⟨(by decide : 25 + 1 ≤ mcM 154), (by decide : 5523 + 500 ≤ msM 154)⟩)]
  show (ev false 10 0 0 [pR 8 (t + 25), pI (ii (6 : Nat))] [] (nlM (upM (cM10 (nlM (upM (cM10 (nlM (upM (cM91 (nlM (upM (cM75 (nlM M (t + 1)) (t + 1)) t 1 1) (t + 14)) (t + 14)) t 2 1) (t + 21)) (t + 21)) t 3 1) (t + 23)) (t + 23)) t 4 1) (t + 25)) (o, t + 26, t + 26, 0, 0, L)).bind _ = _
  rw [k49, kf]
  show ev false 154 0 62 [pR 6 t] [pR 8 (t + 25), pR 6 t] (cM10 (nlM (upM (cM10 (nlM (upM (cM10 (nlM (upM (cM91 (nlM (upM (cM75 (nlM M (t + 1)) (t + 1)) t 1 1) (t + 14)) (t + 14)) t 2 1) (t + 21)) (t + 21)) t 3 1) (t + 23)) (t + 23)) t 4 1) (t + 25)) (t + 25)) (o, t + 27, t + 27, 26, 6023, L) = _
  rw [q154i_62, if_pos (by exact rfl), if_pos (by exact ⟨h11, rfl, (by decide : 26 + 1 ≤ mcM 154), (by decide : 6023 + 1 ≤ msM 154)⟩), if_pos (by exact ⟨(by decide : 27 + 1 ≤ mcM 154), (by decide : 6024 + 500 ≤ msM 154)⟩)]
  show (ev false 10 0 0 [pR 8 (t + 27), pI (ii (6 : Nat))] [] (nlM (upM (cM10 (nlM (upM (cM10 (nlM (upM (cM10 (nlM (upM (cM91 (nlM (upM (cM75 (nlM M (t + 1)) (t + 1)) t 1 1) (t + 14)) (t + 14)) t 2 1) (t + 21)) (t + 21)) t 3 1) (t + 23)) (t + 23)) t 4 1) (t + 25)) (t + 25)) t 5 1) (t + 27)) (o, t + 28, t + 28, 0, 0, L)).bind _ = _
  rw [k62, kf]
  show ev false 154 0 75 [pR 6 t] [pR 8 (t + 27), pR 6 t] (cM10 (nlM (upM (cM10 (nlM (upM (cM10 (nlM (upM (cM10 (nlM (upM (cM91 (nlM (upM (cM75 (nlM M (t + 1)) (t + 1)) t 1 1) (t + 14)) (t + 14)) t 2 1) (t + 21)) (t + 21)) t 3 1) (t + 23)) (t + 23)) t 4 1) (t + 25)) (t + 25)) t 5 1) (t + 27)) (t + 27)) (o, t + 29, t + 29, 28, 6524, L) = _
  rw [q154i_75, if_pos (by exact rfl), if_pos (by exact ⟨h13, rfl, (by decide : 28 + 1 ≤ mcM 154), (by decide : 6524 + 1 ≤ msM 154)⟩), if_pos (by exact ⟨(by decide : 29 + 1 ≤ mcM 154), (by decide : 6525 + 500 ≤ msM 154)⟩)]
  show (ev false 10 0 0 [pR 8 (t + 29), pI (ii (6 : Nat))] [] (nlM (upM (cM10 (nlM (upM (cM10 (nlM (upM (cM10 (nlM (upM (cM10 (nlM (upM (cM91 (nlM (upM (cM75 (nlM M (t + 1)) (t + 1)) t 1 1) (t + 14)) (t + 14)) t 2 1) (t + 21)) (t + 21)) t 3 1) (t + 23)) (t + 23)) t 4 1) (t + 25)) (t + 25)) t 5 1) (t + 27)) (t + 27)) t 6 1) (t + 29)) (o, t + 30, t + 30, 0, 0, L)).bind _ = _
  rw [k75, kf]
  show ev false 154 0 88 [pR 6 t] [pR 8 (t + 29), pR 6 t] (cM10 (nlM (upM (cM10 (nlM (upM (cM10 (nlM (upM (cM10 (nlM (upM (cM10 (nlM (upM (cM91 (nlM (upM (cM75 (nlM M (t + 1)) (t + 1)) t 1 1) (t + 14)) (t + 14)) t 2 1) (t + 21)) (t + 21)) t 3 1) (t + 23)) (t + 23)) t 4 1) (t + 25)) (t + 25)) t 5 1) (t + 27)) (t + 27)) t 6 1) (t + 29)) (t + 29)) (o, t + 31, t + 31, 30, 7025, L) = _
  rw [q154i_88, if_pos (by exact rfl), if_pos (by exact ⟨h15, rfl, (by decide : 30 + 1 ≤ mcM 154), (by decide : 7025 + 1 ≤ msM 154)⟩), if_pos (by exact ⟨(by decide : 31 + 1 ≤ mcM 154), (by decide : 7026 + 500 ≤ msM 154)⟩)]
  show (ev false 10 0 0 [pR 8 (t + 31), pI (ii (6 : Nat))] [] (nlM (upM (cM10 (nlM (upM (cM10 (nlM (upM (cM10 (nlM (upM (cM10 (nlM (upM (cM10 (nlM (upM (cM91 (nlM (upM (cM75 (nlM M (t + 1)) (t + 1)) t 1 1) (t + 14)) (t + 14)) t 2 1) (t + 21)) (t + 21)) t 3 1) (t + 23)) (t + 23)) t 4 1) (t + 25)) (t + 25)) t 5 1) (t + 27)) (t + 27)) t 6 1) (t + 29)) (t + 29)) t 7 1) (t + 31)) (o, t + 32, t + 32, 0, 0, L)).bind _ = _
  rw [k88, kf]
  show ev false 154 0 101 [pR 6 t] [pR 8 (t + 31), pR 6 t] (cM10 (nlM (upM (cM10 (nlM (upM (cM10 (nlM (upM (cM10 (nlM (upM (cM10 (nlM (upM (cM10 (nlM (upM (cM91 (nlM (upM (cM75 (nlM M (t + 1)) (t + 1)) t 1 1) (t + 14)) (t + 14)) t 2 1) (t + 21)) (t + 21)) t 3 1) (t + 23)) (t + 23)) t 4 1) (t + 25)) (t + 25)) t 5 1) (t + 27)) (t + 27)) t 6 1) (t + 29)) (t + 29)) t 7 1) (t + 31)) (t + 31)) (o, t + 33, t + 33, 32, 7526, L) = _
  rw [q154i_101, if_pos (by exact rfl), if_pos (by exact ⟨h17, rfl, (by decide : 32 + 1 ≤ mcM 154), (by decide : 7526 + 1 ≤ msM 154)⟩), if_pos (by exact ⟨(by decide : 33 + 1 ≤ mcM 154), (by decide : 7527 + 500 ≤ msM 154)⟩)]
  show (ev false 10 0 0 [pR 8 (t + 33), pI (ii (6 : Nat))] [] (nlM (upM (cM10 (nlM (upM (cM10 (nlM (upM (cM10 (nlM (upM (cM10 (nlM (upM (cM10 (nlM (upM (cM10 (nlM (upM (cM91 (nlM (upM (cM75 (nlM M (t + 1)) (t + 1)) t 1 1) (t + 14)) (t + 14)) t 2 1) (t + 21)) (t + 21)) t 3 1) (t + 23)) (t + 23)) t 4 1) (t + 25)) (t + 25)) t 5 1) (t + 27)) (t + 27)) t 6 1) (t + 29)) (t + 29)) t 7 1) (t + 31)) (t + 31)) t 8 1) (t + 33)) (o, t + 34, t + 34, 0, 0, L)).bind _ = _
  rw [k101, kf]
  show ev false 154 0 114 [pR 6 t] [pR 8 (t + 33), pR 6 t] (cM10 (nlM (upM (cM10 (nlM (upM (cM10 (nlM (upM (cM10 (nlM (upM (cM10 (nlM (upM (cM10 (nlM (upM (cM10 (nlM (upM (cM91 (nlM (upM (cM75 (nlM M (t + 1)) (t + 1)) t 1 1) (t + 14)) (t + 14)) t 2 1) (t + 21)) (t + 21)) t 3 1) (t + 23)) (t + 23)) t 4 1) (t + 25)) (t + 25)) t 5 1) (t + 27)) (t + 27)) t 6 1) (t + 29)) (t + 29)) t 7 1) (t + 31)) (t + 31)) t 8 1) (t + 33)) (t + 33)) (o, t + 35, t + 35, 34, 8027, L) = _
  rw [q154i_114, if_pos (by exact rfl), if_pos (by exact ⟨h19, rfl, (by decide : 34 + 1 ≤ mcM 154), (by decide : 8027 + 1 ≤ msM 154)⟩), if_pos (by exact ⟨(by decide : 35 + 1 ≤ mcM 154), (by decide : 8028 + 500 ≤ msM 154)⟩)]
  show (ev false 10 0 0 [pR 8 (t + 35), pI (ii (6 : Nat))] [] (nlM (upM (cM10 (nlM (upM (cM10 (nlM (upM (cM10 (nlM (upM (cM10 (nlM (upM (cM10 (nlM (upM (cM10 (nlM (upM (cM10 (nlM (upM (cM91 (nlM (upM (cM75 (nlM M (t + 1)) (t + 1)) t 1 1) (t + 14)) (t + 14)) t 2 1) (t + 21)) (t + 21)) t 3 1) (t + 23)) (t + 23)) t 4 1) (t + 25)) (t + 25)) t 5 1) (t + 27)) (t + 27)) t 6 1) (t + 29)) (t + 29)) t 7 1) (t + 31)) (t + 31)) t 8 1) (t + 33)) (t + 33)) t 9 1) (t + 35)) (o, t + 36, t + 36, 0, 0, L)).bind _ = _
  rw [k114, kf]
  show ev false 154 0 127 [pR 6 t] [pR 8 (t + 35), pR 6 t] (cM10 (nlM (upM (cM10 (nlM (upM (cM10 (nlM (upM (cM10 (nlM (upM (cM10 (nlM (upM (cM10 (nlM (upM (cM10 (nlM (upM (cM10 (nlM (upM (cM91 (nlM (upM (cM75 (nlM M (t + 1)) (t + 1)) t 1 1) (t + 14)) (t + 14)) t 2 1) (t + 21)) (t + 21)) t 3 1) (t + 23)) (t + 23)) t 4 1) (t + 25)) (t + 25)) t 5 1) (t + 27)) (t + 27)) t 6 1) (t + 29)) (t + 29)) t 7 1) (t + 31)) (t + 31)) t 8 1) (t + 33)) (t + 33)) t 9 1) (t + 35)) (t + 35)) (o, t + 37, t + 37, 36, 8528, L) = _
  rw [q154i_127, if_pos (by exact rfl), if_pos (by exact ⟨h21, rfl, (by decide : 36 + 1 ≤ mcM 154), (by decide : 8528 + 1 ≤ msM 154)⟩), if_pos (by exact ⟨(by decide : 37 + 1 ≤ mcM 154), (by decide : 8529 + 500 ≤ msM 154)⟩)]
  show (ev false 10 0 0 [pR 8 (t + 37), pI (ii (6 : Nat))] [] (nlM (upM (cM10 (nlM (upM (cM10 (nlM (upM (cM10 (nlM (upM (cM10 (nlM (upM (cM10 (nlM (upM (cM10 (nlM (upM (cM10 (nlM (upM (cM10 (nlM (upM (cM91 (nlM (upM (cM75 (nlM M (t + 1)) (t + 1)) t 1 1) (t + 14)) (t + 14)) t 2 1) (t + 21)) (t + 21)) t 3 1) (t + 23)) (t + 23)) t 4 1) (t + 25)) (t + 25)) t 5 1) (t + 27)) (t + 27)) t 6 1) (t + 29)) (t + 29)) t 7 1) (t + 31)) (t + 31)) t 8 1) (t + 33)) (t + 33)) t 9 1) (t + 35)) (t + 35)) t 10 1) (t + 37)) (o, t + 38, t + 38, 0, 0, L)).bind _ = _
  rw [k127, kf]
  show ev false 154 0 140 [pR 6 t] [pR 8 (t + 37), pR 6 t] (cM10 (nlM (upM (cM10 (nlM (upM (cM10 (nlM (upM (cM10 (nlM (upM (cM10 (nlM (upM (cM10 (nlM (upM (cM10 (nlM (upM (cM10 (nlM (upM (cM10 (nlM (upM (cM91 (nlM (upM (cM75 (nlM M (t + 1)) (t + 1)) t 1 1) (t + 14)) (t + 14)) t 2 1) (t + 21)) (t + 21)) t 3 1) (t + 23)) (t + 23)) t 4 1) (t + 25)) (t + 25)) t 5 1) (t + 27)) (t + 27)) t 6 1) (t + 29)) (t + 29)) t 7 1) (t + 31)) (t + 31)) t 8 1) (t + 33)) (t + 33)) t 9 1) (t + 35)) (t + 35)) t 10 1) (t + 37)) (t + 37)) (o, t + 39, t + 39, 38, 9029, L) = _
  rw [q154i_140, if_pos (by exact rfl), if_pos (by exact ⟨h23, rfl, (by decide : 38 + 1 ≤ mcM 154), (by decide : 9029 + 1 ≤ msM 154)⟩), if_pos (by exact ⟨(by decide : 39 + 1 ≤ mcM 154), (by decide : 9030 + 500 ≤ msM 154)⟩)]
  show (ev false 10 0 0 [pR 8 (t + 39), pI (ii (6 : Nat))] [] (nlM (upM (cM10 (nlM (upM (cM10 (nlM (upM (cM10 (nlM (upM (cM10 (nlM (upM (cM10 (nlM (upM (cM10 (nlM (upM (cM10 (nlM (upM (cM10 (nlM (upM (cM10 (nlM (upM (cM91 (nlM (upM (cM75 (nlM M (t + 1)) (t + 1)) t 1 1) (t + 14)) (t + 14)) t 2 1) (t + 21)) (t + 21)) t 3 1) (t + 23)) (t + 23)) t 4 1) (t + 25)) (t + 25)) t 5 1) (t + 27)) (t + 27)) t 6 1) (t + 29)) (t + 29)) t 7 1) (t + 31)) (t + 31)) t 8 1) (t + 33)) (t + 33)) t 9 1) (t + 35)) (t + 35)) t 10 1) (t + 37)) (t + 37)) t 11 1) (t + 39)) (o, t + 40, t + 40, 0, 0, L)).bind _ = _
  rw [k140, kf]
  show ev false 154 0 153 [pR 6 t] [pR 8 (t + 39), pR 6 t] (cM10 (nlM (upM (cM10 (nlM (upM (cM10 (nlM (upM (cM10 (nlM (upM (cM10 (nlM (upM (cM10 (nlM (upM (cM10 (nlM (upM (cM10 (nlM (upM (cM10 (nlM (upM (cM10 (nlM (upM (cM91 (nlM (upM (cM75 (nlM M (t + 1)) (t + 1)) t 1 1) (t + 14)) (t + 14)) t 2 1) (t + 21)) (t + 21)) t 3 1) (t + 23)) (t + 23)) t 4 1) (t + 25)) (t + 25)) t 5 1) (t + 27)) (t + 27)) t 6 1) (t + 29)) (t + 29)) t 7 1) (t + 31)) (t + 31)) t 8 1) (t + 33)) (t + 33)) t 9 1) (t + 35)) (t + 35)) t 10 1) (t + 37)) (t + 37)) t 11 1) (t + 39)) (t + 39)) (o, t + 41, t + 41, 40, 9530, L) = _
  rw [q154i_153, if_pos (by exact rfl), if_pos (by exact ⟨h25, rfl, (by decide : 40 + 1 ≤ mcM 154), (by decide : 9530 + 1 ≤ msM 154)⟩), if_pos (by exact ⟨(by decide : 41 + 1 ≤ mcM 154), (by decide : 9531 + 500 ≤ msM 154)⟩)]
  show (ev false 10 0 0 [pR 8 (t + 41), pI (ii (6 : Nat))] [] (nlM (upM (cM10 (nlM (upM (cM10 (nlM (upM (cM10 (nlM (upM (cM10 (nlM (upM (cM10 (nlM (upM (cM10 (nlM (upM (cM10 (nlM (upM (cM10 (nlM (upM (cM10 (nlM (upM (cM10 (nlM (upM (cM91 (nlM (upM (cM75 (nlM M (t + 1)) (t + 1)) t 1 1) (t + 14)) (t + 14)) t 2 1) (t + 21)) (t + 21)) t 3 1) (t + 23)) (t + 23)) t 4 1) (t + 25)) (t + 25)) t 5 1) (t + 27)) (t + 27)) t 6 1) (t + 29)) (t + 29)) t 7 1) (t + 31)) (t + 31)) t 8 1) (t + 33)) (t + 33)) t 9 1) (t + 35)) (t + 35)) t 10 1) (t + 37)) (t + 37)) t 11 1) (t + 39)) (t + 39)) t 12 1) (t + 41)) (o, t + 42, t + 42, 0, 0, L)).bind _ = _
  rw [k153, kf]
  show ev false 154 0 166 [pR 6 t] [pR 8 (t + 41), pR 6 t] (cM10 (nlM (upM (cM10 (nlM (upM (cM10 (nlM (upM (cM10 (nlM (upM (cM10 (nlM (upM (cM10 (nlM (upM (cM10 (nlM (upM (cM10 (nlM (upM (cM10 (nlM (upM (cM10 (nlM (upM (cM10 (nlM (upM (cM91 (nlM (upM (cM75 (nlM M (t + 1)) (t + 1)) t 1 1) (t + 14)) (t + 14)) t 2 1) (t + 21)) (t + 21)) t 3 1) (t + 23)) (t + 23)) t 4 1) (t + 25)) (t + 25)) t 5 1) (t + 27)) (t + 27)) t 6 1) (t + 29)) (t + 29)) t 7 1) (t + 31)) (t + 31)) t 8 1) (t + 33)) (t + 33)) t 9 1) (t + 35)) (t + 35)) t 10 1) (t + 37)) (t + 37)) t 11 1) (t + 39)) (t + 39)) t 12 1) (t + 41)) (t + 41)) (o, t + 43, t + 43, 42, 10031, L) = _
  rw [q154i_166, if_pos (by exact rfl), if_pos (by exact ⟨h27, rfl, (by decide : 42 + 1 ≤ mcM 154), (by decide : 10031 + 1 ≤ msM 154)⟩), if_pos (by exact ⟨(by decide : 43 + 1 ≤ mcM 154), (by decide : 10032 + 500 ≤ msM 154)⟩)]
  show (ev false 10 0 0 [pR 8 (t + 43), pI (ii (6 : Nat))] [] (nlM (upM (cM10 (nlM (upM (cM10 (nlM (upM (cM10 (nlM (upM (cM10 (nlM (upM (cM10 (nlM (upM (cM10 (nlM (upM (cM10 (nlM (upM (cM10 (nlM (upM (cM10 (nlM (upM (cM10 (nlM (upM (cM10 (nlM (upM (cM91 (nlM (upM (cM75 (nlM M (t + 1)) (t + 1)) t 1 1) (t + 14)) (t + 14)) t 2 1) (t + 21)) (t + 21)) t 3 1) (t + 23)) (t + 23)) t 4 1) (t + 25)) (t + 25)) t 5 1) (t + 27)) (t + 27)) t 6 1) (t + 29)) (t + 29)) t 7 1) (t + 31)) (t + 31)) t 8 1) (t + 33)) (t + 33)) t 9 1) (t + 35)) (t + 35)) t 10 1) (t + 37)) (t + 37)) t 11 1) (t + 39)) (t + 39)) t 12 1) (t + 41)) (t + 41)) t 13 1) (t + 43)) (o, t + 44, t + 44, 0, 0, L)).bind _ = _
  rw [k166, kf]
  show ev false 154 0 179 [pR 6 t] [pR 8 (t + 43), pR 6 t] (cM10 (nlM (upM (cM10 (nlM (upM (cM10 (nlM (upM (cM10 (nlM (upM (cM10 (nlM (upM (cM10 (nlM (upM (cM10 (nlM (upM (cM10 (nlM (upM (cM10 (nlM (upM (cM10 (nlM (upM (cM10 (nlM (upM (cM10 (nlM (upM (cM91 (nlM (upM (cM75 (nlM M (t + 1)) (t + 1)) t 1 1) (t + 14)) (t + 14)) t 2 1) (t + 21)) (t + 21)) t 3 1) (t + 23)) (t + 23)) t 4 1) (t + 25)) (t + 25)) t 5 1) (t + 27)) (t + 27)) t 6 1) (t + 29)) (t + 29)) t 7 1) (t + 31)) (t + 31)) t 8 1) (t + 33)) (t + 33)) t 9 1) (t + 35)) (t + 35)) t 10 1) (t + 37)) (t + 37)) t 11 1) (t + 39)) (t + 39)) t 12 1) (t + 41)) (t + 41)) t 13 1) (t + 43)) (t + 43)) (o, t + 45, t + 45, 44, 10532, L) = _
  rw [q154i_179, if_pos (by exact rfl), if_pos (by exact ⟨h29, rfl, (by decide : 44 + 1 ≤ mcM 154), (by decide : 10532 + 1 ≤ msM 154)⟩), if_pos (by exact ⟨(by decide : 45 + 1 ≤ mcM 154), (by decide : 10533 + 500 ≤ msM 154)⟩)]
  show (ev false 10 0 0 [pR 8 (t + 45), pI (ii (8 : Nat))] [] (nlM (upM (cM10 (nlM (upM (cM10 (nlM (upM (cM10 (nlM (upM (cM10 (nlM (upM (cM10 (nlM (upM (cM10 (nlM (upM (cM10 (nlM (upM (cM10 (nlM (upM (cM10 (nlM (upM (cM10 (nlM (upM (cM10 (nlM (upM (cM10 (nlM (upM (cM91 (nlM (upM (cM75 (nlM M (t + 1)) (t + 1)) t 1 1) (t + 14)) (t + 14)) t 2 1) (t + 21)) (t + 21)) t 3 1) (t + 23)) (t + 23)) t 4 1) (t + 25)) (t + 25)) t 5 1) (t + 27)) (t + 27)) t 6 1) (t + 29)) (t + 29)) t 7 1) (t + 31)) (t + 31)) t 8 1) (t + 33)) (t + 33)) t 9 1) (t + 35)) (t + 35)) t 10 1) (t + 37)) (t + 37)) t 11 1) (t + 39)) (t + 39)) t 12 1) (t + 41)) (t + 41)) t 13 1) (t + 43)) (t + 43)) t 14 1) (t + 45)) (o, t + 46, t + 46, 0, 0, L)).bind _ = _
  rw [k179, kf]
  show ev false 154 0 192 [pR 6 t] [pR 8 (t + 45), pR 6 t] (cM10 (nlM (upM (cM10 (nlM (upM (cM10 (nlM (upM (cM10 (nlM (upM (cM10 (nlM (upM (cM10 (nlM (upM (cM10 (nlM (upM (cM10 (nlM (upM (cM10 (nlM (upM (cM10 (nlM (upM (cM10 (nlM (upM (cM10 (nlM (upM (cM10 (nlM (upM (cM91 (nlM (upM (cM75 (nlM M (t + 1)) (t + 1)) t 1 1) (t + 14)) (t + 14)) t 2 1) (t + 21)) (t + 21)) t 3 1) (t + 23)) (t + 23)) t 4 1) (t + 25)) (t + 25)) t 5 1) (t + 27)) (t + 27)) t 6 1) (t + 29)) (t + 29)) t 7 1) (t + 31)) (t + 31)) t 8 1) (t + 33)) (t + 33)) t 9 1) (t + 35)) (t + 35)) t 10 1) (t + 37)) (t + 37)) t 11 1) (t + 39)) (t + 39)) t 12 1) (t + 41)) (t + 41)) t 13 1) (t + 43)) (t + 43)) t 14 1) (t + 45)) (t + 45)) (o, t + 47, t + 47, 46, 11033, L) = _
  rw [q154i_192, if_pos (by exact rfl), if_pos (by exact ⟨h31, rfl, (by decide : 46 + 1 ≤ mcM 154), (by decide : 11033 + 3 ≤ msM 154)⟩), if_pos (by exact ⟨(by decide : 47 + 2 ≤ mcM 154), (by decide : 11036 + 501 ≤ msM 154)⟩)]
  show (ev false 96 0 0 [pR 11 (t + 47)] [] (nlM (upM (cM10 (nlM (upM (cM10 (nlM (upM (cM10 (nlM (upM (cM10 (nlM (upM (cM10 (nlM (upM (cM10 (nlM (upM (cM10 (nlM (upM (cM10 (nlM (upM (cM10 (nlM (upM (cM10 (nlM (upM (cM10 (nlM (upM (cM10 (nlM (upM (cM10 (nlM (upM (cM91 (nlM (upM (cM75 (nlM M (t + 1)) (t + 1)) t 1 1) (t + 14)) (t + 14)) t 2 1) (t + 21)) (t + 21)) t 3 1) (t + 23)) (t + 23)) t 4 1) (t + 25)) (t + 25)) t 5 1) (t + 27)) (t + 27)) t 6 1) (t + 29)) (t + 29)) t 7 1) (t + 31)) (t + 31)) t 8 1) (t + 33)) (t + 33)) t 9 1) (t + 35)) (t + 35)) t 10 1) (t + 37)) (t + 37)) t 11 1) (t + 39)) (t + 39)) t 12 1) (t + 41)) (t + 41)) t 13 1) (t + 43)) (t + 43)) t 14 1) (t + 45)) (t + 45)) t 15 1) (t + 47)) (o, t + 48, t + 48, 0, 0, L)).bind _ = _
  rw [k192, kf]
  show ev false 154 0 203 [pR 6 t] [pR 11 (t + 47), pR 6 t] (cM96 (nlM (upM (cM10 (nlM (upM (cM10 (nlM (upM (cM10 (nlM (upM (cM10 (nlM (upM (cM10 (nlM (upM (cM10 (nlM (upM (cM10 (nlM (upM (cM10 (nlM (upM (cM10 (nlM (upM (cM10 (nlM (upM (cM10 (nlM (upM (cM10 (nlM (upM (cM10 (nlM (upM (cM91 (nlM (upM (cM75 (nlM M (t + 1)) (t + 1)) t 1 1) (t + 14)) (t + 14)) t 2 1) (t + 21)) (t + 21)) t 3 1) (t + 23)) (t + 23)) t 4 1) (t + 25)) (t + 25)) t 5 1) (t + 27)) (t + 27)) t 6 1) (t + 29)) (t + 29)) t 7 1) (t + 31)) (t + 31)) t 8 1) (t + 33)) (t + 33)) t 9 1) (t + 35)) (t + 35)) t 10 1) (t + 37)) (t + 37)) t 11 1) (t + 39)) (t + 39)) t 12 1) (t + 41)) (t + 41)) t 13 1) (t + 43)) (t + 43)) t 14 1) (t + 45)) (t + 45)) t 15 1) (t + 47)) (t + 47)) (o, t + 50, t + 50, 49, 11537, L) = _
  rw [q154i_203, if_pos (by exact rfl)]
  rfl
theorem AG154 (h : AG (t + 1) M M') : AG (t + 50) (cM154 M t) (cM154 M' t) := ag_up (ag_up (AG96 (ag_nl (ag_up (AG10 (ag_nl (ag_up (AG10 (ag_nl (ag_up (AG10 (ag_nl (ag_up (AG10 (ag_nl (ag_up (AG10 (ag_nl (ag_up (AG10 (ag_nl (ag_up (AG10 (ag_nl (ag_up (AG10 (ag_nl (ag_up (AG10 (ag_nl (ag_up (AG10 (ag_nl (ag_up (AG10 (ag_nl (ag_up (AG10 (ag_nl (ag_up (AG10 (ag_nl (ag_up (AG91 (ag_nl (ag_up (AG75 (ag_nl (h)))))))))))))))))))))))))))))))))))))))))))))))))
theorem FR154 (h : b < t) : cM154 M t b = M b := by
  unfold cM154
  rw [upB (by omega), upB (by omega), FR96 (by omega), nlB (by omega), upB (by omega), FR10 (by omega), nlB (by omega), upB (by omega), FR10 (by omega), nlB (by omega), upB (by omega), FR10 (by omega), nlB (by omega), upB (by omega), FR10 (by omega), nlB (by omega), upB (by omega), FR10 (by omega), nlB (by omega), upB (by omega), FR10 (by omega), nlB (by omega), upB (by omega), FR10 (by omega), nlB (by omega), upB (by omega), FR10 (by omega), nlB (by omega), upB (by omega), FR10 (by omega), nlB (by omega), upB (by omega), FR10 (by omega), nlB (by omega), upB (by omega), FR10 (by omega), nlB (by omega), upB (by omega), FR10 (by omega), nlB (by omega), upB (by omega), FR10 (by omega), nlB (by omega), upB (by omega), FR91 (by omega), nlB (by omega), upB (by omega), FR75 (by omega), nlB (by omega)]
def cM58 (M : Mem) : Mem := upM (upM (cM10 (nlM M 2) 2) 1 0 1) 1 7 (-1)
theorem K58 : ∃ x y, ev false 58 0 0 [pR 2 1] [] M (o, 2, 2, 0, 0, L) = some (.inl none, cM58 M, (o, 4, 4, x, y, L)) := by
  have h1 : tyA (2) = 8 := by decide +kernel
  have h2 : ok10 2 500 = true := by decide +kernel
  obtain ⟨x0, y0, k0⟩ := K10 (M := nlM M 2) (o := o) (L := L) (t := 2) (n := 500) h2 (by omega)
  refine ⟨2, 501, ?_⟩
  rw [q58i_0, if_pos (by exact ⟨h1, rfl, (by decide : 0 + 1 ≤ mcM 58), (by decide : 0 + 1 ≤ msM 58)⟩), if_pos (by exact ⟨(by decide : 1 + 1 ≤ mcM 58), (by decide : 1 + 500 ≤ msM 58)⟩)]
  show (ev false 10 0 0 [pR 8 2, pI (ii (500 : Nat))] [] (nlM M 2) (o, 3, 3, 0, 0, L)).bind _ = _
  rw [k0, kf]
  show ev false 58 0 15 [pR 2 1] [pR 8 2, pR 2 1] (cM10 (nlM M 2) 2) (o, 4, 4, 2, 501, L) = _
  rw [q58i_15, if_pos (by exact rfl)]
  rfl
theorem AG58 (h : AG 2 M M') : AG 4 (cM58 M) (cM58 M') := ag_up (ag_up (AG10 (ag_nl (h))))
def cM203 (M : Mem) : Mem := upM (cM151 (nlM M 5) 5) 4 0 1
theorem K203 : ∃ x y, ev false 203 0 0 [pR 3 4] [] M (o, 5, 5, 0, 0, L) = some (.inl none, cM203 M, (o, 39, 39, x, y, L)) := by
  have h1 : tyA (5) = 5 := by decide +kernel
  have h2 : ok151 5 = true := by decide +kernel
  obtain ⟨x0, y0, k0⟩ := K151 (M := nlM M 5) (o := o) (L := L) (t := 5) h2
  refine ⟨34, 8041, ?_⟩
  rw [q203i_0, if_pos (by exact ⟨h1, rfl, (by decide : 0 + 1 ≤ mcM 203), (by decide : 0 + 19 ≤ msM 203)⟩), if_pos (by exact ⟨(by decide : 1 + 33 ≤ mcM 203), (by decide : 19 + 8022 ≤ msM 203)⟩)]
  show (ev false 151 0 0 [pR 5 5] [] (nlM M 5) (o, 6, 6, 0, 0, L)).bind _ = _
  rw [k0, kf]
  show ev false 203 0 12 [pR 3 4] [pR 5 5, pR 3 4] (cM151 (nlM M 5) 5) (o, 39, 39, 34, 8041, L) = _
  rw [q203i_12, if_pos (by exact rfl)]
  rfl
theorem AG203 (h : AG 5 M M') : AG 39 (cM203 M) (cM203 M') := ag_up (AG151 (ag_nl (h)))
def cM148 (M : Mem) : Mem := upM (cM99 (nlM M 40) 40) 39 0 1
theorem K148 : ∃ x y, ev false 148 0 0 [pR 4 39] [] M (o, 40, 40, 0, 0, L) = some (.inl none, cM148 M, (o, 49, 49, x, y, L)) := by
  have h1 : tyA (40) = 12 := by decide +kernel
  have h2 : ok99 40 200 = true := by decide +kernel
  obtain ⟨x0, y0, k0⟩ := K99 (M := nlM M 40) (o := o) (L := L) (t := 40) (n := 200) h2 (by omega)
  refine ⟨9, 2010, ?_⟩
  rw [q148i_0, if_pos (by exact ⟨h1, rfl, (by decide : 0 + 1 ≤ mcM 148), (by decide : 0 + 6 ≤ msM 148)⟩), if_pos (by exact ⟨(by decide : 1 + 8 ≤ mcM 148), (by decide : 6 + 2004 ≤ msM 148)⟩)]
  show (ev false 99 0 0 [pR 12 40, pI (ii (200 : Nat))] [] (nlM M 40) (o, 41, 41, 0, 0, L)).bind _ = _
  rw [k0, kf]
  show ev false 148 0 15 [pR 4 39] [pR 12 40, pR 4 39] (cM99 (nlM M 40) 40) (o, 49, 49, 9, 2010, L) = _
  rw [q148i_15, if_pos (by exact rfl)]
  rfl
theorem AG148 (h : AG 40 M M') : AG 49 (cM148 M) (cM148 M') := ag_up (AG99 (ag_nl (h)))
def acM (M : Mem) : Nat → Mem
  | 0 => upM (nlM M 134) 133 0 1
  | k + 1 => upM (cM154 (nlM (acM M k) (135 + 50 * k)) (135 + 50 * k)) 134 k 1
theorem ac_133 : ∀ k, acM M k 133 0 = 1
  | 0 => by
    show upM (nlM M 134) 133 0 1 133 0 = 1
    rw [up_s, if_pos rfl]
  | k + 1 => by
    show upM (cM154 (nlM (acM M k) (135 + 50 * k)) (135 + 50 * k)) 134 k 1 133 0 = 1
    rw [upB (by decide), FR154 (by omega), nlB (by omega)]
    exact ac_133 k
def cM214 (M : Mem) : Mem := acM M 10
theorem ln134' : Int32.ofNat (ln 134) = ii 10 := by rw [ln134]; rfl
theorem ac_ok : ∀ k : Nat, k < 10 → tyA (135 + 50 * k) = 6 ∧ ok154 (135 + 50 * k) = true := by decide +kernel
theorem K214l : ∀ (m k : Nat), k + m = 10 → ∃ x y, ev false 214 0 15 [pR 7 133, pI (ii k)] [] (acM M k) (o, 135 + 50 * k, 135 + 50 * k, 1 + 50 * k, 10 + 11555 * k, L) = some (.inl none, cM214 M, (o, 635, 635, x, y, L)) := by
  have e1 : mcM 214 = 501 := by decide
  have e2 : msM 214 = 115560 := by decide
  intro m
  induction m with
  | zero =>
    intro k h1
    have hk : k = 10 := by omega
    subst hk
    exact ⟨_, _, by rw [q214i_15, ac_133, if_pos rfl, ln134', ltF (by omega)]; rfl⟩
  | succ m ih =>
    intro k h1
    obtain ⟨h2, h3⟩ := ac_ok k (by omega)
    obtain ⟨x1, y1, k1⟩ := K154 (M := nlM (acM M k) (135 + 50 * k)) (o := o) (L := L) (t := 135 + 50 * k) h3
    obtain ⟨x, y, hh⟩ := ih (k + 1) (by omega)
    refine ⟨x, y, ?_⟩
    rw [q214i_15, ac_133, if_pos rfl, ln134', ltT (by omega), if_pos rfl, if_pos (by exact ⟨h2, rfl, (by rw [e1]; omega : 1 + 50 * k + 1 ≤ mcM 214), (by rw [e2]; omega : 10 + 11555 * k + 18 ≤ msM 214)⟩), if_pos (by exact ⟨(by rw [e1]; omega : 1 + 50 * k + 1 + 49 ≤ mcM 214), (by rw [e2]; omega : 10 + 11555 * k + 18 + 11537 ≤ msM 214)⟩)]
    show (ev false 154 0 0 [pR 6 (135 + 50 * k)] [] (nlM (acM M k) (135 + 50 * k)) (o, 135 + 50 * k + 1, 135 + 50 * k + 1, 0, 0, L)).bind _ = _
    rw [k1, kf, q214i_36, ii_nat (by omega) (by omega), show ((k : Int)).toNat = k by omega, if_pos ⟨by rw [ii_inB (by omega) (by omega)]; omega, by show 135 + 50 * k = 134 + 1 + 50 * k; omega⟩, i_1, ii_add]
    show ev false 214 0 15 [pR 7 133, pI (ii (k + 1 : Nat))] [] (acM M (k + 1)) (o, 135 + 50 * k + 50, 135 + 50 * k + 50, 1 + 50 * k + 1 + 49, 10 + 11555 * k + 18 + 11537, L) = _
    have e4 : 135 + 50 * k + 50 = 135 + 50 * (k + 1) := by omega
    have e5 : 1 + 50 * k + 1 + 49 = 1 + 50 * (k + 1) := by omega
    have e6 : 10 + 11555 * k + 18 + 11537 = 10 + 11555 * (k + 1) := by omega
    rw [e4, e5, e6]
    exact hh
theorem K214 : ∃ x y, ev false 214 0 0 [pR 7 133, p0] [] M (o, 134, 134, 0, 0, L) = some (.inl none, cM214 M, (o, 635, 635, x, y, L)) := by
  obtain ⟨x, y, h⟩ := K214l (M := M) (o := o) (L := L) 10 0 rfl
  refine ⟨x, y, ?_⟩
  have h1 : tyA 134 = 16 := by decide +kernel
  rw [q214i_0, if_pos (by exact ⟨h1, rfl, (by decide : ¬ (10 : Int32) < 0), (by decide : (10 : Int32).toNatClampNeg = 10), (by decide : 0 + 1 ≤ mcM 214), (by decide : 0 + 10 ≤ msM 214)⟩), if_pos (by exact rfl), i_0]
  exact h
theorem AGac (h : AG 134 M M') : ∀ k, AG (135 + 50 * k) (acM M k) (acM M' k)
  | 0 => ag_up (ag_nl h)
  | k + 1 => by
    have := ag_up (a := 134) (k := k) (v := 1) (AG154 (ag_nl (AGac h k)))
    rw [show 135 + 50 * k + 50 = 135 + 50 * (k + 1) by omega] at this
    exact this
theorem AG214 (h : AG 134 M M') : AG 635 (cM214 M) (cM214 M') := AGac h 10
def cM226 (M : Mem) : Mem := upM (upM (cM154 (nlM (upM (cM151 (nlM (upM (cM154 (nlM (upM (cM154 (nlM (upM (cM214 (nlM (upM (cM154 (nlM (upM (cM151 (nlM (upM (cM148 (nlM (upM (cM203 (nlM (upM (cM58 (nlM M 1)) 0 0 1) 4)) 0 1 1) 39)) 0 2 1) 49) 49) 0 3 1) 83) 83) 0 4 1) 133)) 0 5 1) 635) 635) 0 6 1) 685) 685) 0 7 1) 735) 735) 0 8 1) 769) 769) 0 9 1) 0 11 (-1)
theorem K226 : ∃ x y, ev false 226 0 0 [pR 1 0] [] M (o, 1, 1, 0, 0, L) = ev false 226 0 119 [pR 1 0] [] (cM226 M) (o, 819, 819, x, y, L) := by
  have h1 : tyA (1) = 2 := by decide +kernel
  have h2 : tyA (4) = 3 := by decide +kernel
  have h3 : tyA (39) = 4 := by decide +kernel
  have h4 : tyA (49) = 5 := by decide +kernel
  have h5 : ok151 49 = true := by decide +kernel
  have h6 : tyA (83) = 6 := by decide +kernel
  have h7 : ok154 83 = true := by decide +kernel
  have h8 : tyA (133) = 7 := by decide +kernel
  have h9 : tyA (635) = 6 := by decide +kernel
  have h10 : ok154 635 = true := by decide +kernel
  have h11 : tyA (685) = 6 := by decide +kernel
  have h12 : ok154 685 = true := by decide +kernel
  have h13 : tyA (735) = 5 := by decide +kernel
  have h14 : ok151 735 = true := by decide +kernel
  have h15 : tyA (769) = 6 := by decide +kernel
  have h16 : ok154 769 = true := by decide +kernel
  obtain ⟨x0, y0, k0⟩ := K58 (M := nlM M 1) (o := o) (L := L)
  obtain ⟨x12, y12, k12⟩ := K203 (M := nlM (upM (cM58 (nlM M 1)) 0 0 1) 4) (o := o) (L := L)
  obtain ⟨x23, y23, k23⟩ := K148 (M := nlM (upM (cM203 (nlM (upM (cM58 (nlM M 1)) 0 0 1) 4)) 0 1 1) 39) (o := o) (L := L)
  obtain ⟨x34, y34, k34⟩ := K151 (M := nlM (upM (cM148 (nlM (upM (cM203 (nlM (upM (cM58 (nlM M 1)) 0 0 1) 4)) 0 1 1) 39)) 0 2 1) 49) (o := o) (L := L) (t := 49) h5
  obtain ⟨x45, y45, k45⟩ := K154 (M := nlM (upM (cM151 (nlM (upM (cM148 (nlM (upM (cM203 (nlM (upM (cM58 (nlM M 1)) 0 0 1) 4)) 0 1 1) 39)) 0 2 1) 49) 49) 0 3 1) 83) (o := o) (L := L) (t := 83) h7
  obtain ⟨x56, y56, k56⟩ := K214 (M := nlM (upM (cM154 (nlM (upM (cM151 (nlM (upM (cM148 (nlM (upM (cM203 (nlM (upM (cM58 (nlM M 1)) 0 0 1) 4)) 0 1 1) 39)) 0 2 1) 49) 49) 0 3 1) 83) 83) 0 4 1) 133) (o := o) (L := L)
  obtain ⟨x67, y67, k67⟩ := K154 (M := nlM (upM (cM214 (nlM (upM (cM154 (nlM (upM (cM151 (nlM (upM (cM148 (nlM (upM (cM203 (nlM (upM (cM58 (nlM M 1)) 0 0 1) 4)) 0 1 1) 39)) 0 2 1) 49) 49) 0 3 1) 83) 83) 0 4 1) 133)) 0 5 1) 635) (o := o) (L := L) (t := 635) h10
  obtain ⟨x78, y78, k78⟩ := K154 (M := nlM (upM (cM154 (nlM (upM (cM214 (nlM (upM (cM154 (nlM (upM (cM151 (nlM (upM (cM148 (nlM (upM (cM203 (nlM (upM (cM58 (nlM M 1)) 0 0 1) 4)) 0 1 1) 39)) 0 2 1) 49) 49) 0 3 1) 83) 83) 0 4 1) 133)) 0 5 1) 635) 635) 0 6 1) 685) (o := o) (L := L) (t := 685) h12
  obtain ⟨x89, y89, k89⟩ := K151 (M := nlM (upM (cM154 (nlM (upM (cM154 (nlM (upM (cM214 (nlM (upM (cM154 (nlM (upM (cM151 (nlM (upM (cM148 (nlM (upM (cM203 (nlM (upM (cM58 (nlM M 1)) 0 0 1) 4)) 0 1 1) 39)) 0 2 1) 49) 49) 0 3 1) 83) 83) 0 4 1) 133)) 0 5 1) 635) 635) 0 6 1) 685) 685) 0 7 1) 735) (o := o) (L := L) (t := 735) h14
  obtain ⟨x100, y100, k100⟩ := K154 (M := nlM (upM (cM151 (nlM (upM (cM154 (nlM (upM (cM154 (nlM (upM (cM214 (nlM (upM (cM154 (nlM (upM (cM151 (nlM (upM (cM148 (nlM (upM (cM203 (nlM (upM (cM58 (nlM M 1)) 0 0 1) 4)) 0 1 1) 39)) 0 2 1) 49) 49) 0 3 1) 83) 83) 0 4 1) 133)) 0 5 1) 635) 635) 0 6 1) 685) 685) 0 7 1) 735) 735) 0 8 1) 769) (o := o) (L := L) (t := 769) h16
  refine ⟨818, 188430, ?_⟩
  rw [q226i_0, if_pos (by exact ⟨h1, rfl, (by decide : 0 + 1 ≤ mcM 226), (by decide : 0 + 8 ≤ msM 226)⟩), if_pos (by exact ⟨(by decide : 1 + 2 ≤ mcM 226), (by decide : 8 + 501 ≤ msM 226)⟩)]
  show (ev false 58 0 0 [pR 2 1] [] (nlM M 1) (o, 2, 2, 0, 0, L)).bind _ = _
  rw [k0, kf]
  show ev false 226 0 12 [pR 1 0] [pR 2 1, pR 1 0] (cM58 (nlM M 1)) (o, 4, 4, 3, 509, L) = _
  rw [q226i_12, if_pos (by exact rfl), if_pos (by exact ⟨h2, rfl, (by decide : 3 + 1 ≤ mcM 226), (by decide : 509 + 1 ≤ msM 226)⟩), if_pos (by exact ⟨(by decide : 4 + 34 ≤ mcM 226), (by decide : 510 + 8041 ≤ msM 226)⟩)]
  show (ev false 203 0 0 [pR 3 4] [] (nlM (upM (cM58 (nlM M 1)) 0 0 1) 4) (o, 5, 5, 0, 0, L)).bind _ = _
  rw [k12, kf]
  show ev false 226 0 23 [pR 1 0] [pR 3 4, pR 1 0] (cM203 (nlM (upM (cM58 (nlM M 1)) 0 0 1) 4)) (o, 39, 39, 38, 8551, L) = _
  rw [q226i_23, if_pos (by exact rfl), if_pos (by exact ⟨h3, rfl, (by decide : 38 + 1 ≤ mcM 226), (by decide : 8551 + 4 ≤ msM 226)⟩), if_pos (by exact ⟨(by decide : 39 + 9 ≤ mcM 226), (by decide : 8555 + 2010 ≤ msM 226)⟩)]
  show (ev false 148 0 0 [pR 4 39] [] (nlM (upM (cM203 (nlM (upM (cM58 (nlM M 1)) 0 0 1) 4)) 0 1 1) 39) (o, 40, 40, 0, 0, L)).bind _ = _
  rw [k23, kf]
  show ev false 226 0 34 [pR 1 0] [pR 4 39, pR 1 0] (cM148 (nlM (upM (cM203 (nlM (upM (cM58 (nlM M 1)) 0 0 1) 4)) 0 1 1) 39)) (o, 49, 49, 48, 10565, L) = _
  rw [q226i_34, if_pos (by exact rfl), if_pos (by exact ⟨h4, rfl, (by decide : 48 + 1 ≤ mcM 226), (by decide : 10565 + 19 ≤ msM 226)⟩), if_pos (by exact ⟨(by decide : 49 + 33 ≤ mcM 226), (by decide : 10584 + 8022 ≤ msM 226)⟩)]
  show (ev false 151 0 0 [pR 5 49] [] (nlM (upM (cM148 (nlM (upM (cM203 (nlM (upM (cM58 (nlM M 1)) 0 0 1) 4)) 0 1 1) 39)) 0 2 1) 49) (o, 50, 50, 0, 0, L)).bind _ = _
  rw [k34, kf]
  show ev false 226 0 45 [pR 1 0] [pR 5 49, pR 1 0] (cM151 (nlM (upM (cM148 (nlM (upM (cM203 (nlM (upM (cM58 (nlM M 1)) 0 0 1) 4)) 0 1 1) 39)) 0 2 1) 49) 49) (o, 83, 83, 82, 18606, L) = _
  rw [q226i_45, if_pos (by exact rfl), if_pos (by exact ⟨h6, rfl, (by decide : 82 + 1 ≤ mcM 226), (by decide : 18606 + 18 ≤ msM 226)⟩), if_pos (by exact ⟨(by decide : 83 + 49 ≤ mcM 226), (by decide : 18624 + 11537 ≤ msM 226)⟩)]
  show (ev false 154 0 0 [pR 6 83] [] (nlM (upM (cM151 (nlM (upM (cM148 (nlM (upM (cM203 (nlM (upM (cM58 (nlM M 1)) 0 0 1) 4)) 0 1 1) 39)) 0 2 1) 49) 49) 0 3 1) 83) (o, 84, 84, 0, 0, L)).bind _ = _
  rw [k45, kf]
  show ev false 226 0 56 [pR 1 0] [pR 6 83, pR 1 0] (cM154 (nlM (upM (cM151 (nlM (upM (cM148 (nlM (upM (cM203 (nlM (upM (cM58 (nlM M 1)) 0 0 1) 4)) 0 1 1) 39)) 0 2 1) 49) 49) 0 3 1) 83) 83) (o, 133, 133, 132, 30161, L) = _
  rw [q226i_56, if_pos (by exact rfl), if_pos (by exact ⟨h8, rfl, (by decide : 132 + 1 ≤ mcM 226), (by decide : 30161 + 3 ≤ msM 226)⟩), if_pos (by exact ⟨(by decide : 133 + 501 ≤ mcM 226), (by decide : 30164 + 115560 ≤ msM 226)⟩)]
  show (ev false 214 0 0 [pR 7 133, p0] [] (nlM (upM (cM154 (nlM (upM (cM151 (nlM (upM (cM148 (nlM (upM (cM203 (nlM (upM (cM58 (nlM M 1)) 0 0 1) 4)) 0 1 1) 39)) 0 2 1) 49) 49) 0 3 1) 83) 83) 0 4 1) 133) (o, 134, 134, 0, 0, L)).bind _ = _
  rw [k56, kf]
  show ev false 226 0 67 [pR 1 0] [pR 7 133, pR 1 0] (cM214 (nlM (upM (cM154 (nlM (upM (cM151 (nlM (upM (cM148 (nlM (upM (cM203 (nlM (upM (cM58 (nlM M 1)) 0 0 1) 4)) 0 1 1) 39)) 0 2 1) 49) 49) 0 3 1) 83) 83) 0 4 1) 133)) (o, 635, 635, 634, 145724, L) = _
  rw [q226i_67, if_pos (by exact rfl), if_pos (by exact ⟨h9, rfl, (by decide : 634 + 1 ≤ mcM 226), (by decide : 145724 + 18 ≤ msM 226)⟩), if_pos (by exact ⟨(by decide : 635 + 49 ≤ mcM 226), (by decide : 145742 + 11537 ≤ msM 226)⟩)]
  show (ev false 154 0 0 [pR 6 635] [] (nlM (upM (cM214 (nlM (upM (cM154 (nlM (upM (cM151 (nlM (upM (cM148 (nlM (upM (cM203 (nlM (upM (cM58 (nlM M 1)) 0 0 1) 4)) 0 1 1) 39)) 0 2 1) 49) 49) 0 3 1) 83) 83) 0 4 1) 133)) 0 5 1) 635) (o, 636, 636, 0, 0, L)).bind _ = _
  rw [k67, kf]
  show ev false 226 0 78 [pR 1 0] [pR 6 635, pR 1 0] (cM154 (nlM (upM (cM214 (nlM (upM (cM154 (nlM (upM (cM151 (nlM (upM (cM148 (nlM (upM (cM203 (nlM (upM (cM58 (nlM M 1)) 0 0 1) 4)) 0 1 1) 39)) 0 2 1) 49) 49) 0 3 1) 83) 83) 0 4 1) 133)) 0 5 1) 635) 635) (o, 685, 685, 684, 157279, L) = _
  rw [q226i_78, if_pos (by exact rfl), if_pos (by exact ⟨h11, rfl, (by decide : 684 + 1 ≤ mcM 226), (by decide : 157279 + 18 ≤ msM 226)⟩), if_pos (by exact ⟨(by decide : 685 + 49 ≤ mcM 226), (by decide : 157297 + 11537 ≤ msM 226)⟩)]
  show (ev false 154 0 0 [pR 6 685] [] (nlM (upM (cM154 (nlM (upM (cM214 (nlM (upM (cM154 (nlM (upM (cM151 (nlM (upM (cM148 (nlM (upM (cM203 (nlM (upM (cM58 (nlM M 1)) 0 0 1) 4)) 0 1 1) 39)) 0 2 1) 49) 49) 0 3 1) 83) 83) 0 4 1) 133)) 0 5 1) 635) 635) 0 6 1) 685) (o, 686, 686, 0, 0, L)).bind _ = _
  rw [k78, kf]
  show ev false 226 0 89 [pR 1 0] [pR 6 685, pR 1 0] (cM154 (nlM (upM (cM154 (nlM (upM (cM214 (nlM (upM (cM154 (nlM (upM (cM151 (nlM (upM (cM148 (nlM (upM (cM203 (nlM (upM (cM58 (nlM M 1)) 0 0 1) 4)) 0 1 1) 39)) 0 2 1) 49) 49) 0 3 1) 83) 83) 0 4 1) 133)) 0 5 1) 635) 635) 0 6 1) 685) 685) (o, 735, 735, 734, 168834, L) = _
  rw [q226i_89, if_pos (by exact rfl), if_pos (by exact ⟨h13, rfl, (by decide : 734 + 1 ≤ mcM 226), (by decide : 168834 + 19 ≤ msM 226)⟩), if_pos (by exact ⟨(by decide : 735 + 33 ≤ mcM 226), (by decide : 168853 + 8022 ≤ msM 226)⟩)]
  show (ev false 151 0 0 [pR 5 735] [] (nlM (upM (cM154 (nlM (upM (cM154 (nlM (upM (cM214 (nlM (upM (cM154 (nlM (upM (cM151 (nlM (upM (cM148 (nlM (upM (cM203 (nlM (upM (cM58 (nlM M 1)) 0 0 1) 4)) 0 1 1) 39)) 0 2 1) 49) 49) 0 3 1) 83) 83) 0 4 1) 133)) 0 5 1) 635) 635) 0 6 1) 685) 685) 0 7 1) 735) (o, 736, 736, 0, 0, L)).bind _ = _
  rw [k89, kf]
  show ev false 226 0 100 [pR 1 0] [pR 5 735, pR 1 0] (cM151 (nlM (upM (cM154 (nlM (upM (cM154 (nlM (upM (cM214 (nlM (upM (cM154 (nlM (upM (cM151 (nlM (upM (cM148 (nlM (upM (cM203 (nlM (upM (cM58 (nlM M 1)) 0 0 1) 4)) 0 1 1) 39)) 0 2 1) 49) 49) 0 3 1) 83) 83) 0 4 1) 133)) 0 5 1) 635) 635) 0 6 1) 685) 685) 0 7 1) 735) 735) (o, 769, 769, 768, 176875, L) = _
  rw [q226i_100, if_pos (by exact rfl), if_pos (by exact ⟨h15, rfl, (by decide : 768 + 1 ≤ mcM 226), (by decide : 176875 + 18 ≤ msM 226)⟩), if_pos (by exact ⟨(by decide : 769 + 49 ≤ mcM 226), (by decide : 176893 + 11537 ≤ msM 226)⟩)]
  show (ev false 154 0 0 [pR 6 769] [] (nlM (upM (cM151 (nlM (upM (cM154 (nlM (upM (cM154 (nlM (upM (cM214 (nlM (upM (cM154 (nlM (upM (cM151 (nlM (upM (cM148 (nlM (upM (cM203 (nlM (upM (cM58 (nlM M 1)) 0 0 1) 4)) 0 1 1) 39)) 0 2 1) 49) 49) 0 3 1) 83) 83) 0 4 1) 133)) 0 5 1) 635) 635) 0 6 1) 685) 685) 0 7 1) 735) 735) 0 8 1) 769) (o, 770, 770, 0, 0, L)).bind _ = _
  rw [k100, kf]
  show ev false 226 0 111 [pR 1 0] [pR 6 769, pR 1 0] (cM154 (nlM (upM (cM151 (nlM (upM (cM154 (nlM (upM (cM154 (nlM (upM (cM214 (nlM (upM (cM154 (nlM (upM (cM151 (nlM (upM (cM148 (nlM (upM (cM203 (nlM (upM (cM58 (nlM M 1)) 0 0 1) 4)) 0 1 1) 39)) 0 2 1) 49) 49) 0 3 1) 83) 83) 0 4 1) 133)) 0 5 1) 635) 635) 0 6 1) 685) 685) 0 7 1) 735) 735) 0 8 1) 769) 769) (o, 819, 819, 818, 188430, L) = _
  rw [q226i_111, if_pos (by exact rfl)]
  rfl
theorem AG226 (h : AG 1 M M') : AG 819 (cM226 M) (cM226 M') := ag_up (ag_up (AG154 (ag_nl (ag_up (AG151 (ag_nl (ag_up (AG154 (ag_nl (ag_up (AG154 (ag_nl (ag_up (AG214 (ag_nl (ag_up (AG154 (ag_nl (ag_up (AG151 (ag_nl (ag_up (AG148 (ag_nl (ag_up (AG203 (ag_nl (ag_up (AG58 (ag_nl (h)))))))))))))))))))))))))))))))
end CTR
