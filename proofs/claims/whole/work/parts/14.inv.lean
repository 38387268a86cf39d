/-! the calls, by instruction -/
section INV
variable {p : Program} {l : Launch} {e : Env} {R : Room} {s : State} {m : MethodId} {args : Array Value} {below : List Frame} {meth : Method} {c : Code} {Q : State → Prop} {cc : ByteArray} {G : EG} {mi lv nL : Nat} {ph : Bool} {cl : Nat → Nat → List PV → Mem → PX → Option PRs} {K : KT} {r0 : PRs} {pc tg : Nat} {cv : Int32} {L st : List PV} {ls : Array Slot} {M : Mem} {X : PX} {H : Heap} {locs : List Loc}
/-- what a frame knows for its calls -/
def CF (l : Launch) (R : Room) (s : State) (m : MethodId) (args : Array Value) (c : Code) (G : EG) (mi lv nL : Nat) : Prop :=
  c.maxLocals = nL ∧ s.vm.findClass (cn (ownM mi)) = some m.cls ∧ (∀ w ∈ gwT, w.before args s = true) ∧ SI G s ∧ mcM mi ≤ R.cells ∧ msM mi ≤ R.slots ∧ rankM mi lv ≤ R.frames ∧ 60 * rankM mi lv ≤ R.locals ∧ (lv ≤ 40 ∧ (rgM mi = 0 → lv = 0)) ∧ (∀ t, 1 ≤ t → t ≤ 13 → CTok t) ∧
  ∀ m' lv', mkM m' = 0 → rankM m' lv' + 1 ≤ rankM mi lv → lv' ≤ 40 → (rgM m' = 0 → lv' = 0) → CON l G m' lv'
def CL (ph : Bool) (cl : Nat → Nat → List PV → Mem → PX → Option PRs) : Prop := ∀ m' lv' as M X q, cl m' lv' as M X = some q → evc ph m' lv' as M X = some q ∧ PXI m' X q
def BD (mi : Nat) (X : PX) : Prop := alM mi = true → X.2.2.2.1 ≤ mcM mi ∧ X.2.2.2.2.1 ≤ msM mi
theorem room_hf {m' : Nat} (hF : CF l R s m args c G mi lv nL) (hB : BD mi X) (hz : alM mi = false → mcM m' = 0 ∧ msM m' = 0) (hq : alM mi = true → alM m' = true → X.2.2.2.1 + mcM m' ≤ mcM mi ∧ X.2.2.2.2.1 + msM m' ≤ msM mi) (h0 : alM m' = false → mcM m' = 0 ∧ msM m' = 0) : cX mi X + mcM m' ≤ R.cells ∧ sX mi X + msM m' ≤ R.slots := by
  obtain ⟨-, -, -, -, hRc, hRs, -⟩ := hF
  unfold cX sX
  cases hal : alM mi with
  | false =>
    rw [(hz hal).1, (hz hal).2]
    exact ⟨Nat.zero_le _, Nat.zero_le _⟩
  | true =>
    show X.2.2.2.1 + mcM m' ≤ R.cells ∧ X.2.2.2.2.1 + msM m' ≤ R.slots
    obtain ⟨b1, b2⟩ := hB hal
    cases ha2 : alM m' with
    | true =>
      obtain ⟨q1, q2⟩ := hq hal ha2
      exact ⟨Nat.le_trans q1 hRc, Nat.le_trans q2 hRs⟩
    | false =>
      obtain ⟨q1, q2⟩ := h0 ha2
      exact ⟨by omega, by omega⟩
theorem in9 {m' : Nat} {as r : List PV} {X9 : PX} (fi : FI G s H locs ph nL M X ls L (as ++ r)) (h1 : plen (expd as) ≤ mlN m') (hX : X9.2.1 = X.2.1) (hz : alM m' = true → X9.2.2.2.1 = 0 ∧ X9.2.2.2.2.1 = 0) : IN9 G m' as X9 :=
  ⟨fun v hv => by rw [hX]; exact fi.2.2.2.2.2.1 v (List.mem_append_left _ hv), h1, hz, fi.2.2.2.2.2.2⟩
theorem fi_rev {as r : List PV} (fi : FI G s H locs ph nL M X ls L (as.reverse ++ r)) : FI G s H locs ph nL M X ls L (as ++ r) := fi_st fi fun w hw => by
  rcases List.mem_append.mp hw with h | h
  · exact fi.2.2.2.2.2.1 w (List.mem_append_left _ (List.mem_reverse.mpr h))
  · exact fi.2.2.2.2.2.1 w (List.mem_append_right _ h)
theorem pc9_at {as r : List PV} {X9 : PX} (hSI : SI G s) (fi : FI G s H locs ph nL M X ls L r) (hX : X9.2.1 = X.2.1) (hH : HR G M X9 H) {U : State} (hU : U.heap = H) (hW : s.WarmedH U.vm) : Pc9 G ph as M X9 (as.map (tvG G)).toArray U :=
  ⟨rfl, SI_move hSI fi.2.2.1 hU hW, by rw [hU]; exact hH, fun q => by rw [hX]; exact fi.2.1 q⟩
set_option maxHeartbeats 1000000 in
theorem fr_static {i : Nat} (hx : p.tables.exec = Jvm.exec) (hb : c.code = cc) (ih : IHK p l e R s m args below meth c Q G mi nL ph K r0) (fi : FI G s H locs ph nL M X ls L st) (h : stp ph cl mi lv K (pc, .invokestatic i, 3, tg, cv) L st M X = some r0) (hd : decode cc pc = .ok (.invokestatic i, 3))
    (hF : CF l R s m args c G mi lv nL) (hcl : CL ph cl) (hB : BD mi X) (hfr : 1 ≤ R.frames) (hlo : 8 + (nativeFrameWords "java/lang/System" "arraycopy" 5 + 11) ≤ R.locals) (hlo2 : 21 ≤ R.locals) (hck : ∀ w, lkp (mthP (ownM mi)) i = some w → ckC mi i w = true ∧ (w.1 = 1 → mkM w.2.1 = 0)) : W p l e R s m args below meth c H locs (cX mi X) (sX mi X) Q (F0 m pc ls (st.map (tvG G))) := by
  have hF0 := hF
  obtain ⟨hml, hown, hts, hSI, hRc, hRs, hRf, hRl, hlv, hCT, hCON⟩ := hF
  unfold stp at h
  dsimp only at h
  obtain ⟨w, hw, h1⟩ := bind_inv h
  obtain ⟨hck, hmk⟩ := hck w hw
  unfold ckC at hck
  cases hz : lkp (mwP (ownM mi)) i with
  | none => rw [hz] at hck; cases hck
  | some z =>
  rw [hz] at hck
  dsimp only at hck
  cases h3 : Nat.beq w.1 3 with
  | true =>
    rw [nbeq_t h3] at hck
    have hck : (hasW z.1 (.methodLink (cn (ownM mi)) i arraycopyName) && hasW z.2.1 (.static arraycopyName) && hasW z.2.2.1 (.native arraycopyName) && hasW z.2.2.2 (.initialized "java/lang/System")) = true := hck
    simp only [Bool.and_eq_true] at hck
    obtain ⟨⟨⟨w1, w2⟩, w3⟩, w4⟩ := hck
    rw [h3] at h1
    obtain ⟨t, a, sp, d, b, dp, n, r, rfl, h2⟩ := ucp_inv h1
    obtain ⟨hc, h4⟩ := bif_inv h2
    obtain ⟨⟨g1, g2, g3, g4, g5⟩, h5⟩ := ite_inv h4
    simp only [Bool.and_eq_true] at hc
    obtain ⟨⟨t1, t2⟩, t3⟩ := hc
    have t1 := nbeq_t t1
    have t2 := nbeq_t t2
    subst t1; subst t2
    have oa := (fi_ok (fi_tl (fi_tl (fi_tl (fi_tl fi))))).2.1 (by decide)
    have ob := (fi_ok (fi_tl (fi_tl fi))).2.1 (by decide)
    have fr := fi_tl (fi_tl (fi_tl (fi_tl (fi_tl fi))))
    have hwg := cat_wg (G := G) fr.2.2.2.2.2.2 r fr.2.2.2.2.2.1
    have hr8 : wg r ≤ 8 := Nat.le_of_ble_eq_true t3
    have k9 := fr_copy (pc := pc) (Q := Q) (below := below) (meth := meth) (l := l) (e := e) (p := p) (R := R) (rest := r.map (tvG G)) (cells := cX mi X) (slots := sX mi X) hx hb (by rw [hml, fr.2.2.2.1.2.1]) fr hown hts hSI (hasW_in w1) (hasW_in w3) (hasW_in w2) (hasW_in w4) oa.2 ob.2 oa.1 ob.1 g1 g2 g3 g4 g5 hfr (by rw [hwg]; omega) hd (fun H1 lc f9 => ih _ _ _ _ _ _ _ _ h5 f9)
    show W p l e R s m args below meth c H locs (cX mi X) (sX mi X) Q (F0 m pc ls (.int n :: .int dp :: tvG G (pR 14 b) :: .int sp :: tvG G (pR 14 a) :: r.map (tvG G)))
    rw [tv_ref (by decide), tv_ref (by decide)]
    exact k9
  | false =>
    rw [h3] at h1
    have h1 : (bif Nat.beq w.1 1 then ((popn w.2.2.1 [] st).bind fun q => kCall ph cl mi lv K (pc + 3) w q.1 L q.2 M X) else bif Nat.beq w.1 7 then (u2 st fun x y r => bif Nat.ble (wg r) 8 then K (pc + 3) L (pI (if y < x then y else x) :: r) M X else none) else bif Nat.beq w.1 8 then (u2 st fun x y r => bif Nat.ble (wg r) 8 then K (pc + 3) L (pI (if x < y then y else x) :: r) M X else none) else none) = some r0 := h1
    rcases hk1 : Nat.beq w.1 1 with _ | _
    · skip
      rw [hk1] at h1
      have h2 : (bif Nat.beq w.1 7 then (u2 st fun x y r => bif Nat.ble (wg r) 8 then K (pc + 3) L (pI (if y < x then y else x) :: r) M X else none) else bif Nat.beq w.1 8 then (u2 st fun x y r => bif Nat.ble (wg r) 8 then K (pc + 3) L (pI (if x < y then y else x) :: r) M X else none) else none) = some r0 := h1
      cases h7 : Nat.beq w.1 7 with
      | true =>
        rw [nbeq_t h7] at hck
        have hck : (hasW z.1 (.methodLink (cn (ownM mi)) i Lib.Math.min.name) && hasW z.2.1 (.static Lib.Math.min.name) && hasW z.2.2.1 (.code Lib.Math.min.name Lib.Math.min.code 2 (some .int)) && hasW z.2.2.2 (.initialized "java/lang/Math")) = true := hck
        simp only [Bool.and_eq_true] at hck
        obtain ⟨⟨⟨w1, w2⟩, w3⟩, w4⟩ := hck
        rw [h7] at h2
        obtain ⟨x, y, r, rfl, h4⟩ := u2_inv h2
        obtain ⟨h5, h6⟩ := bif_inv h4
        have h5 := Nat.le_of_ble_eq_true h5
        have frr := fi_tl (fi_tl fi)
        have hwg := cat_wg (G := G) frr.2.2.2.2.2.2 r frr.2.2.2.2.2.1
        have hcx : cX mi X ≤ R.cells ∧ sX mi X ≤ R.slots := by
          unfold cX sX
          cases ha : alM mi with
          | true => exact ⟨Nat.le_trans (hB ha).1 hRc, Nat.le_trans (hB ha).2 hRs⟩
          | false => exact ⟨Nat.zero_le _, Nat.zero_le _⟩
        exact va_mmin (rest := r.map (tvG G)) hx hb (by rw [hml, frr.2.2.2.1.2.1]) hown (hts _ (hasW_in w1)) (hts _ (hasW_in w2)) (hts _ (hasW_in w4)) (hts _ (hasW_in w3)) hfr (by rw [hwg]; omega) hcx.1 hcx.2 hd (ih _ _ _ _ _ _ _ _ h6 (fi_I frr))
      | false =>
        rw [h7] at h2
        obtain ⟨h8, h9⟩ := bif_inv (show (bif Nat.beq w.1 8 then (u2 st fun x y r => bif Nat.ble (wg r) 8 then K (pc + 3) L (pI (if x < y then y else x) :: r) M X else none) else none) = some r0 from h2)
        clear h2
        have h2 := h9
        clear h9
        rw [nbeq_t h8] at hck
        have hck : (hasW z.1 (.methodLink (cn (ownM mi)) i Lib.Math.max.name) && hasW z.2.1 (.static Lib.Math.max.name) && hasW z.2.2.1 (.code Lib.Math.max.name Lib.Math.max.code 2 (some .int)) && hasW z.2.2.2 (.initialized "java/lang/Math")) = true := hck
        simp only [Bool.and_eq_true] at hck
        obtain ⟨⟨⟨w1, w2⟩, w3⟩, w4⟩ := hck
        obtain ⟨x, y, r, rfl, h4⟩ := u2_inv h2
        obtain ⟨h5, h6⟩ := bif_inv h4
        have h5 := Nat.le_of_ble_eq_true h5
        have frr := fi_tl (fi_tl fi)
        have hwg := cat_wg (G := G) frr.2.2.2.2.2.2 r frr.2.2.2.2.2.1
        have hcx : cX mi X ≤ R.cells ∧ sX mi X ≤ R.slots := by
          unfold cX sX
          cases ha : alM mi with
          | true => exact ⟨Nat.le_trans (hB ha).1 hRc, Nat.le_trans (hB ha).2 hRs⟩
          | false => exact ⟨Nat.zero_le _, Nat.zero_le _⟩
        exact va_mmax (rest := r.map (tvG G)) hx hb (by rw [hml, frr.2.2.2.1.2.1]) hown (hts _ (hasW_in w1)) (hts _ (hasW_in w2)) (hts _ (hasW_in w4)) (hts _ (hasW_in w3)) hfr (by rw [hwg]; omega) hcx.1 hcx.2 hd (ih _ _ _ _ _ _ _ _ h6 (fi_I frr))
    rw [hk1] at h1
    have h2 : ((popn w.2.2.1 [] st).bind fun q => kCall ph cl mi lv K (pc + 3) w q.1 L q.2 M X) = some r0 := h1
    have hk1 := nbeq_t hk1
    rw [hk1] at hck
    have hck : (mdOK w z.2.2.2 && rkOK mi w.2.1 && (hasW z.1 (.methodLink (cn (ownM mi)) i (yN w.2.1)) && hasW z.2.1 (.static (yN w.2.1)))) = true := hck
    simp only [Bool.and_eq_true] at hck
    obtain ⟨⟨w1, w2⟩, w3, w4⟩ := hck
    obtain ⟨q, hq, h4⟩ := bind_inv h2
    obtain ⟨as, a1, a2, a3⟩ := popn_inv _ _ _ _ hq
    obtain ⟨q1, r⟩ := q
    rw [List.append_nil] at a3
    dsimp only at a2 a3 h4
    subst a3
    subst a2
    obtain ⟨g1, g2, lv', X9, q9, g3, g4, g5, g6, g7, g8, g9, g10, g11, g12⟩ := kCall_inv w1 w2 hlv h4
    obtain ⟨ev9, px9⟩ := hcl _ _ _ _ _ _ g3
    have fr := fi_rev fi
    have frr : FI G s H locs ph nL M X ls L r := fi_st fr fun v hv => fr.2.2.2.2.2.1 v (List.mem_append_right _ hv)
    have hM := hCON w.2.1 lv' (hmk hk1) g8 g9 g10 ph q1 M X9 q9 ev9 (in9 fr g2 g5 g7)
    have hwg := cat_wg (G := G) frr.2.2.2.2.2.2 r frr.2.2.2.2.2.1
    obtain ⟨-, -, -, -, m5, -⟩ := md_inv w1
    refine call9 (m9 := w.2.1) (X9 := X9) (va_runS (As := q1.map (tvG G)) (rest := r.map (tvG G)) ⟨hx, hb, hml, hown, hts⟩ hM ⟨cb_of w1 g8 hRf hRl hts (hasW_in w3), hts _ (hasW_in w4)⟩ ⟨Pc9_blind, fun U hU hW => pc9_at hSI frr g5 (g6 _ _ frr.1) hU hW⟩ rfl (by rw [List.length_map]; exact a1) fr.2.2.2.1.2.1 (by show (q1.reverse ++ r).map (tvG G) = _; rw [List.map_append, List.map_reverse]) (by show 2 * 0 + _ ≤ 8; rw [hwg]; omega) hd (room_hf hF0 hB g11 g12 m5)) frr ih g4 px9 g5 g11
theorem recv9 {t a : Nat} {nm : String} (hSI : SI G s) (hCT : ∀ t, 1 ≤ t → t ≤ 13 → CTok t) (fi : FI G s H locs ph nL M X ls L st) (ho : okR X.2.1 (otg t) a) (h : ((Nat.beq t 16 && decide (nm = "java/lang/String")) || (Nat.ble 1 t && Nat.ble t 13 && decide ((clT t).1 = nm))) = true) :
    ∃ b : Nat, tvG G (pR (otg t) a) = .ref b ∧ ∃ cellB : Cell, H[b]? = some cellB ∧ cellB.vm.isStatics = false ∧ s.vm.findClass nm = some cellB.cls := by
  simp only [Bool.or_eq_true, Bool.and_eq_true, decide_eq_true_eq] at h
  rcases h with ⟨h1, rfl⟩ | ⟨⟨h1, h2⟩, rfl⟩
  · have h1 := nbeq_t h1
    subst h1
    exact ⟨gK G a, rfl, vk_recv hSI.2.2.1 (ho.2.2.1 (Or.inl rfl)) fi.2.2.1⟩
  · have h1 := Nat.le_of_ble_eq_true h1
    have h2 := Nat.le_of_ble_eq_true h2
    have e : otg t = t := by unfold otg; rw [nbeq_f (by omega)]; rfl
    rw [e] at ho ⊢
    have hr := ho.1 (by omega)
    obtain ⟨C1, -⟩ := hCT t h1 h2
    exact ⟨gb G + a, tv_ref (by omega), va_recv hSI.2.1 fi.1.1 C1 (ws_at hr.2 h2 hr.1)⟩
set_option maxHeartbeats 1000000 in
theorem fr_virtual {i : Nat} (hx : p.tables.exec = Jvm.exec) (hb : c.code = cc) (ih : IHK p l e R s m args below meth c Q G mi nL ph K r0) (fi : FI G s H locs ph nL M X ls L st) (h : stp ph cl mi lv K (pc, .invokevirtual i, 3, tg, cv) L st M X = some r0) (hd : decode cc pc = .ok (.invokevirtual i, 3))
    (hF : CF l R s m args c G mi lv nL) (hcl : CL ph cl) (hB : BD mi X) (hck : ∀ w, lkp (mthP (ownM mi)) i = some w → ckC mi i w = true ∧ mkM w.2.1 = 0) : W p l e R s m args below meth c H locs (cX mi X) (sX mi X) Q (F0 m pc ls (st.map (tvG G))) := by
  have hF0 := hF
  obtain ⟨hml, hown, hts, hSI, hRc, hRs, hRf, hRl, hlv, hCT, hCON⟩ := hF
  unfold stp at h
  dsimp only at h
  obtain ⟨w, hw, h1⟩ := bind_inv h
  obtain ⟨hck, hmk⟩ := hck w hw
  unfold ckC at hck
  cases hz : lkp (mwP (ownM mi)) i with
  | none => rw [hz] at hck; cases hck
  | some z =>
  rw [hz] at hck
  dsimp only at hck
  obtain ⟨q, hq, h4⟩ := bind_inv h1
  obtain ⟨as, a1, a2, a3⟩ := popn_inv _ _ _ _ hq
  obtain ⟨q1, st2⟩ := q
  rw [List.append_nil] at a3
  dsimp only at a2 a3 h4
  subst a3
  obtain ⟨t, a, r, rfl, h5⟩ := ur1_inv h4
  subst a2
  obtain ⟨hc, h6⟩ := bif_inv h5
  simp only [Bool.and_eq_true] at hc
  have hk1 := nbeq_t hc.1
  have ht := nbeq_t hc.2
  subst ht
  rw [hk1] at hck
  have hck : (mdOK w z.2.2.2 && rkOK mi w.2.1 && (hasW z.1 (.methodLink (cn (ownM mi)) i (yN w.2.1)) && hasW z.2.1 (.instanceMethod (yN w.2.1)) && hasW z.2.2.1 (.selects (yN w.2.1).cls (yN w.2.1) (yN w.2.1)) && ((Nat.beq (ownM w.2.1) 16 && decide ((yN w.2.1).cls = "java/lang/String")) || (Nat.ble 1 (ownM w.2.1) && Nat.ble (ownM w.2.1) 13 && decide ((clT (ownM w.2.1)).1 = (yN w.2.1).cls))))) = true := hck
  rw [Bool.and_eq_true, Bool.and_eq_true, Bool.and_eq_true, Bool.and_eq_true, Bool.and_eq_true] at hck
  obtain ⟨⟨w1, w2⟩, ⟨⟨w3, w4⟩, w5⟩, w6⟩ := hck
  obtain ⟨g1, g2, lv', X9, q9, g3, g4, g5, g6, g7, g8, g9, g10, g11, g12⟩ := kCall_inv w1 w2 hlv h6
  obtain ⟨ev9, px9⟩ := hcl _ _ _ _ _ _ g3
  have fr := fi_rev fi
  have fr2 : FI G s H locs ph nL M X ls L ((pR (otg (ownM w.2.1)) a :: q1) ++ r) := fi_st fr fun v hv => fr.2.2.2.2.2.1 v (by
    rcases List.mem_append.mp hv with h | h
    · rcases List.mem_cons.mp h with rfl | h
      · exact List.mem_append_right _ List.mem_cons_self
      · exact List.mem_append_left _ h
    · exact List.mem_append_right _ (List.mem_cons_of_mem _ h))
  have frr : FI G s H locs ph nL M X ls L r := fi_st fr fun v hv => fr.2.2.2.2.2.1 v (List.mem_append_right _ (List.mem_cons_of_mem _ hv))
  have frc : FI G s H locs ph nL M X ls L (pR (otg (ownM w.2.1)) a :: r) := fi_st fr fun v hv => fr.2.2.2.2.2.1 v (List.mem_append_right _ hv)
  obtain ⟨b, hb1, hb2⟩ := recv9 hSI hCT frc (fi_ok frc).2 w6
  have hM := hCON w.2.1 lv' hmk g8 g9 g10 ph (pR (otg (ownM w.2.1)) a :: q1) M X9 q9 ev9 (in9 fr2 g2 g5 g7)
  have hwg := cat_wg (G := G) frr.2.2.2.2.2.2 r frr.2.2.2.2.2.1
  obtain ⟨-, -, -, -, m5, -⟩ := md_inv w1
  refine call9 (m9 := w.2.1) (X9 := X9) (va_runV (b := b) (C := (yN w.2.1).cls) (As := q1.map (tvG G)) (rest := r.map (tvG G)) ⟨hx, hb, hml, hown, hts⟩ hM ⟨cb_of w1 g8 hRf hRl hts (hasW_in w3), hts _ (hasW_in w4), hts _ (hasW_in w5)⟩ ⟨Pc9_blind, hb2, fun U hU hW => ?_⟩ rfl (by rw [List.length_map]; exact a1) fr.2.2.2.1.2.1 ?_ (by show 2 * 0 + _ ≤ 8; rw [hwg]; omega) hd (room_hf hF0 hB g11 g12 m5)) frr ih g4 px9 g5 g11
  · have h9 := pc9_at (as := pR (otg (ownM w.2.1)) a :: q1) hSI frr g5 (g6 _ _ frr.1) hU hW
    rw [List.map_cons, hb1] at h9
    exact h9
  · show (q1.reverse ++ pR (otg (ownM w.2.1)) a :: r).map (tvG G) = _
    rw [List.map_append, List.map_reverse, List.map_cons, hb1]
set_option maxHeartbeats 1000000 in
theorem fr_special {i : Nat} (hx : p.tables.exec = Jvm.exec) (hb : c.code = cc) (ih : IHK p l e R s m args below meth c Q G mi nL ph K r0) (fi : FI G s H locs ph nL M X ls L st) (h : stp ph cl mi lv K (pc, .invokespecial i, 3, tg, cv) L st M X = some r0) (hd : decode cc pc = .ok (.invokespecial i, 3))
    (hF : CF l R s m args c G mi lv nL) (hcl : CL ph cl) (hB : BD mi X) (hfr : 1 ≤ R.frames) (hlo : 20 ≤ R.locals) (hck : ∀ w, lkp (mthP (ownM mi)) i = some w → ckC mi i w = true ∧ (4 < w.1 → mkM w.2.1 = 0)) : W p l e R s m args below meth c H locs (cX mi X) (sX mi X) Q (F0 m pc ls (st.map (tvG G))) := by
  have hF0 := hF
  obtain ⟨hml, hown, hts, hSI, hRc, hRs, hRf, hRl, hlv, hCT, hCON⟩ := hF
  unfold stp at h
  dsimp only at h
  obtain ⟨w, hw, h1⟩ := bind_inv h
  obtain ⟨hck, hmk⟩ := hck w hw
  unfold ckC at hck
  cases hz : lkp (mwP (ownM mi)) i with
  | none => rw [hz] at hck; cases hck
  | some z =>
  rw [hz] at hck
  dsimp only at hck
  obtain ⟨q, hq, h4⟩ := bind_inv h1
  obtain ⟨as, a1, a2, a3⟩ := popn_inv _ _ _ _ hq
  obtain ⟨q1, st2⟩ := q
  rw [List.append_nil] at a3
  dsimp only at a2 a3 h4
  subst a3
  obtain ⟨t, a, r, rfl, h5⟩ := ur1_inv h4
  subst a2
  obtain ⟨ht0, h6⟩ := bif_ninv h5
  rw [Bool.or_eq_false_iff] at ht0
  have ht16 : t ≤ 16 := by
    rcases Nat.lt_or_ge 16 t with q | q
    · have : Nat.blt 16 t = true := Nat.ble_eq_true_of_le q
      rw [this] at ht0; cases ht0.2
    · exact q
  have ht0 := nbeq_n ht0.1
  have fr := fi_rev fi
  have fr2 : FI G s H locs ph nL M X ls L ((pR t a :: q1) ++ r) := fi_st fr fun v hv => fr.2.2.2.2.2.1 v (by
    rcases List.mem_append.mp hv with h | h
    · rcases List.mem_cons.mp h with rfl | h
      · exact List.mem_append_right _ List.mem_cons_self
      · exact List.mem_append_left _ h
    · exact List.mem_append_right _ (List.mem_cons_of_mem _ h))
  have frr : FI G s H locs ph nL M X ls L r := fi_st fr fun v hv => fr.2.2.2.2.2.1 v (List.mem_append_right _ (List.mem_cons_of_mem _ hv))
  have frc : FI G s H locs ph nL M X ls L (pR t a :: r) := fi_st fr fun v hv => fr.2.2.2.2.2.1 v (List.mem_append_right _ hv)
  have hwg := cat_wg (G := G) frr.2.2.2.2.2.2 r frr.2.2.2.2.2.1
  cases h2 : Nat.beq w.1 2 with
  | true =>
    rw [h2] at h6 hck
    obtain ⟨h7, h8⟩ := bif_inv (show (bif Nat.ble (wg r) 8 then K (pc + 3) L r M X else none) = some r0 from h6)
    have h7 := Nat.le_of_ble_eq_true h7
    have hck : (Nat.beq w.2.2.1 0 && hasW z.1 (.methodLink (cn (ownM mi)) i Lib.objectInit) && hasW z.2.1 (.instanceMethod Lib.objectInit) && hasW z.2.2.1 (.code Lib.objectInit ⟨#[0xb1]⟩ 1 none)) = true := hck
    simp only [Bool.and_eq_true] at hck
    obtain ⟨⟨⟨w0, w1⟩, w2⟩, w3⟩ := hck
    have w0 := nbeq_t w0
    rw [w0] at a1
    have a1 : q1 = [] := List.eq_nil_of_length_eq_zero a1
    subst a1
    show W p l e R s m args below meth c H locs (cX mi X) (sX mi X) Q (F0 m pc ls (tvG G (pR t a) :: r.map (tvG G)))
    rw [tv_ref ht16]
    exact W.objInit hx hb hown (hts _ (hasW_in w1)) (hts _ (hasW_in w2)) (hts _ (hasW_in w3)) rfl (by rw [hml]; exact fr.2.2.2.1.2.1) rfl hd hfr (by show 2 * 0 + _ + 12 ≤ _; rw [hwg]; omega) (ih _ _ _ _ _ _ _ _ h8 frr)
  | false =>
    rw [h2] at h6 hck
    obtain ⟨hk1, h7⟩ := bif_inv (show (bif Nat.blt 4 w.1 && Nat.blt w.1 7 then kCall ph cl mi lv K (pc + 3) w (pR t a :: q1) L r M X else none) = some r0 from h6)
    rw [Bool.and_eq_true] at hk1
    have hk7 := lt_of_blt hk1.2
    have hk1 := lt_of_blt hk1.1
    rw [nbeq_f (by omega : w.1 ≠ 3), nbeq_f (by omega : w.1 ≠ 7), nbeq_f (by omega : w.1 ≠ 8), nbeq_f (by omega : w.1 ≠ 0), nbeq_f (by omega : w.1 ≠ 1)] at hck
    have hck : (mdOK w z.2.2.2 && rkOK mi w.2.1 && (decide ((yN w.2.1).name = "<init>") && decide (rtN w.2.1 = none) && hasW z.2.1 (.instanceMethod (yN w.2.1)) && (bif Nat.beq w.1 5 then hasW z.1 (.methodLink (cn (ownM mi)) i (yN w.2.1))
        else match lw_tbl[z.1]? with
          | some (.methodLinkNest a b x _) => decide (a = cn (ownM mi)) && Nat.beq b i && decide (x = yN w.2.1)
          | _ => false))) = true := hck
    rw [Bool.and_eq_true, Bool.and_eq_true, Bool.and_eq_true, Bool.and_eq_true, Bool.and_eq_true, decide_eq_true_eq, decide_eq_true_eq] at hck
    obtain ⟨⟨w1, w2⟩, ⟨⟨w3, w4⟩, w5⟩, w6⟩ := hck
    obtain ⟨g1, g2, lv', X9, q9, g3, g4, g5, g6, g7, g8, g9, g10, g11, g12⟩ := kCall_inv w1 w2 hlv h7
    obtain ⟨ev9, px9⟩ := hcl _ _ _ _ _ _ g3
    obtain ⟨b, hb1⟩ : ∃ b : Nat, tvG G (pR t a) = .ref b := ⟨_, tv_ref ht16⟩
    have hM := hCON w.2.1 lv' (hmk hk1) g8 g9 g10 ph (pR t a :: q1) M X9 q9 ev9 (in9 fr2 g2 g5 g7)
    obtain ⟨-, -, -, -, m5, m6, m7, m8, m9, m10, m11, -⟩ := md_inv w1
    have hp : PreS s H (Pc9 G ph (pR t a :: q1) M X9) (.ref b :: q1.map (tvG G)) := ⟨Pc9_blind, fun U hU hW => by
      have h9 := pc9_at (as := pR t a :: q1) hSI frr g5 (g6 _ _ frr.1) hU hW
      rw [List.map_cons, hb1] at h9
      exact h9⟩
    have hst : (q1.reverse ++ pR t a :: r).map (tvG G) = (q1.map (tvG G)).reverse ++ .ref b :: r.map (tvG G) := by rw [List.map_append, List.map_reverse, List.map_cons, hb1]
    have hroom := room_hf hF0 hB g11 g12 m5
    cases h5 : Nat.beq w.1 5 with
    | true =>
      rw [h5] at w6
      have hcb := cb_of (R := R) (s := s) (args := args) (index := i) w1 g8 hRf hRl hts (hasW_in w6)
      rw [w4] at hcb
      exact call9 (m9 := w.2.1) (X9 := X9) (va_runI (b := b) (As := q1.map (tvG G)) (rest := r.map (tvG G)) ⟨hx, hb, hml, hown, hts⟩ hM ⟨hcb, w3, hts _ (hasW_in w5)⟩ hp rfl (by rw [List.length_map]; exact a1) fr.2.2.2.1.2.1 hst (by show 2 * 0 + _ ≤ 8; rw [hwg]; omega) hd hroom) frr ih g4 px9 g5 g11
    | false =>
      rw [h5] at w6
      cases hn : lw_tbl[z.1]? with
      | none => rw [hn] at w6; cases w6
      | some wd =>
      rw [hn] at w6
      cases wd with
      | methodLinkNest ca cb cx hst9 =>
        have w6 : (decide (ca = cn (ownM mi)) && Nat.beq cb i && decide (cx = yN w.2.1)) = true := w6
        simp only [Bool.and_eq_true, decide_eq_true_eq] at w6
        obtain ⟨⟨e1, e2⟩, e3⟩ := w6
        have e2 := nbeq_t e2
        subst e1; subst e2; subst e3
        have hl9 := hSI.2.2.2.2.2.2.2.1 _ (List.mem_of_getElem? hn) rfl
        have hc9 : va_CN R s args (cn (ownM mi)) cb (yN w.2.1) hst9 (byN w.2.1) (mlN w.2.1) none (cdN w.2.1 :: gwT) (rmM w.2.1 lv') (mcM w.2.1) (msM w.2.1) w.2.2.1 := by
          refine ⟨⟨rfl, rfl, Nat.le_trans g8 hRf, by show 8 + (mlN w.2.1 + 11) + 60 * rankM w.2.1 lv' ≤ R.locals; omega, pay_in (big := gwT) hts fun x hx => ?_, by rw [m6, w4]; exact List.mem_cons_self⟩, by rw [← w4]; exact hts _ m7, hts _ m8, m9, fun sig h => ?_, va_Nw.use rfl hl9⟩
          · rcases List.mem_cons.mp hx with rfl | hx
            · rw [m6]; exact gw_good m7
            · exact gw_good hx
          · rw [h] at m10
            exact (Option.some.inj m10).symm
        exact call9 (m9 := w.2.1) (X9 := X9) (va_runIN (b := b) (As := q1.map (tvG G)) (rest := r.map (tvG G)) ⟨hx, hb, hml, hown, hts⟩ hM ⟨hc9, w3, hts _ (hasW_in w5)⟩ hp rfl (by rw [List.length_map]; exact a1) fr.2.2.2.1.2.1 hst (by show 2 * 0 + _ ≤ 8; rw [hwg]; omega) hd hroom) frr ih g4 px9 g5 g11
      | _ => cases w6
end INV
