/-! new cells, copies -/
section FRC
variable {p : Program} {l : Launch} {e : Env} {R : Room} {s : State} {m : MethodId} {args : Array Value} {below : List Frame} {meth : Method} {c : Code} {Q : State → Prop} {cc : ByteArray} {G : EG} {mi lv nL : Nat} {ph : Bool} {cl : Nat → Nat → List PV → Mem → PX → Option PRs} {K : KT} {r0 : PRs} {pc tg : Nat} {cv : Int32} {L st : List PV} {ls : Array Slot} {M : Mem} {X : PX} {H : Heap} {locs : List Loc}
theorem ok_mono {na : Nat} {v : PV} (h : okV na v) : okV (na + 1) v := by
  rcases v with x | x | ⟨k, a⟩
  · trivial
  · trivial
  · intro h0
    obtain ⟨h1, h2⟩ := h h0
    exact ⟨fun q => ⟨Nat.lt_succ_of_lt (h1 q).1, (h1 q).2⟩, h2⟩
theorem ln_le (a : Nat) : ln a ≤ 200000 := by
  rcases Nat.lt_or_ge a 829 with q | q
  · have h : (List.range 829).all (fun a => Nat.ble (ln a) 200000) = true := by decide +kernel
    exact Nat.le_of_ble_eq_true (List.all_eq_true.mp h a (List.mem_range.mpr q))
  · have e : ln a = 0 := by
      unfold ln
      rw [List.getD_eq_getElem?_getD, List.getElem?_eq_none (by rw [lay_len]; exact q)]
      rfl
    omega
theorem fi_new {H1 : Heap} {t : Nat} {o : Int64} {fc sc : Nat} (fi : FI G s H locs false nL M X ls L st) (ht : tyA X.2.1 = t) (h2 : t ≤ 16) (h1 : t ≠ 0) (hcc : X.2.1 = X.2.2.1) (hP : va_P (gD G) vwCl (wsM G (nlM M X.2.1) (o, X.2.1 + 1, X.2.2.1 + 1, fc, sc, X.2.2.2.2.2)) H1) (hz : H1.size = gb G + X.2.1 + 1) (oq : ∀ q : Nat, q < gb G + X.2.1 → H1[q]? = H[q]?) :
    FI G s H1 locs false nL (nlM M X.2.1) (o, X.2.1 + 1, X.2.2.1 + 1, fc, sc, X.2.2.2.2.2) ls L (pR t X.2.1 :: st) := by
  have hH := fi.1.2.1 hcc
  refine ⟨⟨hP, fun _ => by rw [hz]; dsimp only; omega, by dsimp only; have := fi.1.2.2.1; omega, fun j hj => ?_, rf_nl fi.1.2.2.2.2.1, fi.1.2.2.2.2.2⟩, fun q => (by cases q), ⟨?_, fun q a b => ?_, fi.2.2.1.2.2⟩, fi.2.2.2.1, fun i => ok_mono (fi.2.2.2.2.1 i), fun v hv => ?_, fi.2.2.2.2.2.2⟩
  · unfold nlM
    rw [if_neg (by have := tyA_lt (by rw [ht]; exact h1); omega)]
    exact fi.1.2.2.2.1 j hj
  · have h9 := fi.2.2.1.1
    rw [hz]; omega
  · have h9 := fi.2.2.1.1
    rw [oq q (by omega)]
    exact fi.2.2.1.2.1 q a b
  · rcases List.mem_cons.mp hv with rfl | hv
    · exact ⟨fun _ => ⟨fun _ => ⟨Nat.lt_succ_self _, ht⟩, fun q => by omega, fun q => by omega, by omega⟩, h1⟩
    · exact ⟨ok_mono (fi.2.2.2.2.2.1 v hv).1, (fi.2.2.2.2.2.1 v hv).2⟩
theorem ceM_nl {na i : Nat} {X X' : PX} (h : i ≠ na) (ho : tyA i = 15 → X'.1 = X.1) : ceM G (nlM M na) X' i = ceM G M X i := by
  have e0 : nlM M na i = M i := by funext j; unfold nlM; rw [if_neg h]
  have e1 : cvM G (nlM M na) i = cvM G M i := by funext j; unfold cvM; rw [e0]
  have e2 : fvM G (nlM M na) i = fvM G M i := by funext t j; unfold fvM; rw [e0]
  unfold ceM
  rw [e0, e1, e2]
  cases hb : Nat.beq (tyA i) 15 with
  | true => rw [ho (nbeq_t hb)]
  | false => rfl
def NEok (o : Nat) (q : Nat × (Nat × Nat)) : Prop := q.2.1 ≤ 100 → q.2.1 ≤ 13 ∧ q.2.1 ≠ 0 ∧ CTok q.2.1 ∧ q.2.2 = (clT q.2.1).2.2 ∧ Cond.classLink (cn o) q.1 (clT q.2.1).1 ∈ gwT ∧ Cond.instantiable (clT q.2.1).1 q.2.2 ∈ gwT ∧ Cond.initialized (clT q.2.1).1 ∈ gwT
theorem cX_al (h : alM mi = true) (X : PX) : cX mi X = X.2.2.2.1 := by unfold cX; rw [h]; rfl
theorem sX_al (h : alM mi = true) (X : PX) : sX mi X = X.2.2.2.2.1 := by unfold sX; rw [h]; rfl

set_option maxHeartbeats 1000000 in
theorem fr_new {i : Nat} (hx : p.tables.exec = Jvm.exec) (hb : c.code = cc) (ih : IHK p l e R s m args below meth c Q G mi nL ph K r0) (fi : FI G s H locs ph nL M X ls L st) (h : stp ph cl mi lv K (pc, .new i, 3, tg, cv) L st M X = some r0) (hd : decode cc pc = .ok (.new i, 3)) (hown : s.vm.findClass (cn (ownM mi)) = some m.cls) (hts : ∀ w ∈ gwT, w.before args s = true) (hSI : SI G s) (hRc : mcM mi ≤ R.cells) (hRs : msM mi ≤ R.slots) (hN : ∀ q ∈ nclP (ownM mi), NEok (ownM mi) q) (hb1 : ∀ t, lkp (nclP (ownM mi)) i = some t → t.1 ≤ 100) : W p l e R s m args below meth c H locs (cX mi X) (sX mi X) Q (F0 m pc ls ((st).map (tvG G))) := by
  unfold stp at h
  dsimp only at h
  obtain ⟨t, ht, h1⟩ := bind_inv h
  have hm := hN _ (lkp_mem ht) (hb1 t ht)
  have hlt : Nat.blt 100 t.1 = false := by
    cases hq : Nat.blt 100 t.1 with
    | false => rfl
    | true => have := lt_of_blt hq; have := hb1 t ht; omega
  rw [hlt] at h1
  obtain ⟨hc, h2⟩ := bif_inv (show (bif !ph && alM mi then _ else none) = some r0 from h1)
  obtain ⟨⟨e1, e2, e3, e4⟩, h3⟩ := ite_inv h2
  simp only [Bool.and_eq_true] at hc
  have hph : ph = false := by cases ph <;> first | rfl | cases hc.1
  subst hph
  have hal := hc.2
  obtain ⟨g1, g2, hC, g3, g4, g5, g6⟩ := hm
  dsimp only at g1 g2 hC g3 g4 g5 g6
  obtain ⟨C1, C2, C3, C4, ty, C5, C6⟩ := hC
  have hKn := hSI.2.1.1 _ _ C1
  have hH : H.size = gb G + X.2.1 := by rw [e2]; exact fi.1.2.1 e2
  refine W.newcK hx hb hown (hts _ g4) (hts _ g5) (hts _ g6) rfl hd (by rw [cX_al hal]; omega) (by rw [sX_al hal]; omega) hKn.2.1 hH fun H1 kC hkC w1 w2 w3 => ?_
  have hP : va_P (gD G) vwCl (wsM G (nlM M X.2.1) (X.1, X.2.1 + 1, X.2.2.1 + 1, X.2.2.2.1 + 1, X.2.2.2.2.1 + t.2, X.2.2.2.2.2)) H1 := by
    have hw := wsM_push (G := G) (M := M) (M' := nlM M X.2.1) (X := X) (X' := (X.1, X.2.1 + 1, X.2.2.1 + 1, X.2.2.2.1 + 1, X.2.2.2.2.1 + t.2, X.2.2.2.2.2)) (e := .inr (kci t.1, (List.range (nfT t.1)).map (fvM G (nlM M X.2.1) X.2.1 t.1))) rfl (ceM_o e1 g1) (fun i hi => ceM_nl (by omega) (fun _ => rfl))
    rw [← hw]
    refine (fi.1.1.kept fun k x hx => w3 x.1 ?_).app fun k x hx => ?_
    · have := (fi.1.1 k x hx).lt
      omega
    · have hz : k < 1 := (List.getElem?_eq_some_iff.mp hx).1
      rw [show k = 0 by omega] at hx
      cases hx
      refine ⟨_, C1, (u_born ty hts C3 hKn hkC w1 C5).to fun j hj => ?_⟩
      rw [C2] at hj
      show defaultValue (ty j) = ((List.range (nfT t.1)).map (fvM G (nlM M X.2.1) X.2.1 t.1)).getD j .null
      rw [List.getD_eq_getElem?_getD, rg_at _ hj]
      show _ = fvM G (nlM M X.2.1) X.2.1 t.1 j
      have hn : nlM M X.2.1 X.2.1 j = 0 := by unfold nlM; rw [if_pos rfl]
      rcases (C6 j (by rw [C2]; exact hj)).2 with q | q | q
      · rw [fvM_int (by rw [q.1]; decide), hn, q.2.1]; rfl
      · rw [fvM_int (by rw [q.1]; decide), hn, q.2.1]; rfl
      · unfold fvM
        rw [q.1, hn, if_neg (by decide), q.2.1]; rfl
  have f9 := fi_new fi e1 (by omega) g2 e2 hP (by rw [w2]) w3
  have h9 := ih _ _ _ _ _ _ _ _ h3 f9
  rw [cX_al hal, sX_al hal] at h9 ⊢
  show W p l e R s m args below meth c H1 locs (X.2.2.2.1 + 1) (X.2.2.2.2.1 + t.2) Q (F0 m (pc + 3) ls (.ref (gb G + X.2.1) :: st.map (tvG G)))
  have h8 : W p l e R s m args below meth c H1 locs (X.2.2.2.1 + 1) (X.2.2.2.2.1 + t.2) Q (F0 m (pc + 3) ls (tvG G (pR t.1 X.2.1) :: st.map (tvG G))) := h9
  rw [tv_ref (by omega)] at h8
  exact h8
set_option maxHeartbeats 1000000 in
theorem fr_newarray_int (hx : p.tables.exec = Jvm.exec) (hb : c.code = cc) (ih : IHK p l e R s m args below meth c Q G mi nL ph K r0) (fi : FI G s H locs ph nL M X ls L st) (h : stp ph cl mi lv K (pc, .newarray .int, 2, tg, cv) L st M X = some r0) (hd : decode cc pc = .ok (.newarray .int, 2)) (hown : s.vm.findClass (cn (ownM mi)) = some m.cls) (hts : ∀ w ∈ gwT, w.before args s = true) (hSI : SI G s) (hRc : mcM mi ≤ R.cells) (hRs : msM mi ≤ R.slots) (hA : Cond.arrayClass .int ∈ gwT) : W p l e R s m args below meth c H locs (cX mi X) (sX mi X) Q (F0 m pc ls ((st).map (tvG G))) := by
  unfold stp at h
  dsimp only at h
  obtain ⟨n, q, rfl, h1⟩ := u1_inv h
  obtain ⟨hc, h2⟩ := bif_inv h1
  obtain ⟨⟨e1, e2, e3, e4, e5⟩, h3⟩ := ite_inv h2
  simp only [Bool.and_eq_true] at hc
  have hph : ph = false := by cases ph <;> first | rfl | cases hc.1
  subst hph
  have hal := hc.2
  have hH : H.size = gb G + X.2.1 := by rw [e2]; exact fi.1.2.1 e2
  refine va_newaK hx hb (atype := .int) (hts _ hA) rfl hd rfl e3 e4 (by have := ln_le X.2.1; show ln X.2.1 * 4 ≤ _; omega) (by rw [cX_al hal]; omega) (by rw [sX_al hal]; omega) hH fun H1 cA w1 w2 w3 w4 w5 => ?_
  have hcA : cA = gI G := by
    have h7 : s.vm.findClass _ = some (gI G) := (hSI.2.1.2 0 _ rfl).2
    exact (Option.some.inj (h7.symm.trans w5)).symm
  subst hcA
  have hP : va_P (gD G) vwCl (wsM G (nlM M X.2.1) (X.1, X.2.1 + 1, X.2.2.1 + 1, X.2.2.2.1 + 1, X.2.2.2.2.1 + ln X.2.1, X.2.2.2.2.2)) H1 := by
    have hw := wsM_push (G := G) (M := M) (M' := nlM M X.2.1) (X := X) (X' := (X.1, X.2.1 + 1, X.2.2.1 + 1, X.2.2.2.1 + 1, X.2.2.2.2.1 + ln X.2.1, X.2.2.2.2.2)) (e := .inl (gI G, ln X.2.1, .inl (fun j => nlM M X.2.1 X.2.1 j))) rfl (ceM_i e1) (fun i hi => ceM_nl (by omega) (fun _ => rfl))
    rw [← hw]
    refine (fi.1.1.kept fun k x hx => w3 x.1 ?_).app fun k x hx => ?_
    · have := (fi.1.1 k x hx).lt
      omega
    · have hz : k < 1 := (List.getElem?_eq_some_iff.mp hx).1
      rw [show k = 0 by omega] at hx
      cases hx
      show H1[gb G + X.2.1]? = some (vp_cell _ _)
      rw [w1, vp_cell_i]
      congr 2
      funext j; show _ = Value.int (nlM M X.2.1 X.2.1 j); unfold nlM; rw [if_pos rfl]; rfl
  have f9 := fi_new (fi_tl fi) e1 (by decide) (by decide) e2 hP (by rw [w2]) w3
  have h9 := ih _ _ _ _ _ _ _ _ h3 f9
  rw [cX_al hal, sX_al hal] at h9 ⊢
  exact h9
set_option maxHeartbeats 1000000 in
theorem fr_newarray_long (hx : p.tables.exec = Jvm.exec) (hb : c.code = cc) (ih : IHK p l e R s m args below meth c Q G mi nL ph K r0) (fi : FI G s H locs ph nL M X ls L st) (h : stp ph cl mi lv K (pc, .newarray .long, 2, tg, cv) L st M X = some r0) (hd : decode cc pc = .ok (.newarray .long, 2)) (hown : s.vm.findClass (cn (ownM mi)) = some m.cls) (hts : ∀ w ∈ gwT, w.before args s = true) (hSI : SI G s) (hRc : mcM mi ≤ R.cells) (hRs : msM mi ≤ R.slots) (hA : Cond.arrayClass .long ∈ gwT) : W p l e R s m args below meth c H locs (cX mi X) (sX mi X) Q (F0 m pc ls ((st).map (tvG G))) := by
  unfold stp at h
  dsimp only at h
  obtain ⟨n, q, rfl, h1⟩ := u1_inv h
  obtain ⟨hc, h2⟩ := bif_inv h1
  obtain ⟨⟨e1, e2, e3, e4, e5⟩, h3⟩ := ite_inv h2
  simp only [Bool.and_eq_true] at hc
  have hph : ph = false := by cases ph <;> first | rfl | cases hc.1
  subst hph
  have hal := hc.2
  have hH : H.size = gb G + X.2.1 := by rw [e2]; exact fi.1.2.1 e2
  refine va_newaK hx hb (atype := .long) (hts _ hA) rfl hd rfl e3 e4 (by have := ln_le X.2.1; show ln X.2.1 * 8 ≤ _; omega) (by rw [cX_al hal]; omega) (by rw [sX_al hal]; omega) hH fun H1 cA w1 w2 w3 w4 w5 => ?_
  have hcA : cA = gL G := by
    have h7 : s.vm.findClass _ = some (gL G) := (hSI.2.1.2 1 _ rfl).2
    exact (Option.some.inj (h7.symm.trans w5)).symm
  subst hcA
  have hP : va_P (gD G) vwCl (wsM G (nlM M X.2.1) ((0 : Int64), X.2.1 + 1, X.2.2.1 + 1, X.2.2.2.1 + 1, X.2.2.2.2.1 + ln X.2.1, X.2.2.2.2.2)) H1 := by
    have hw := wsM_push (G := G) (M := M) (M' := nlM M X.2.1) (X := X) (X' := ((0 : Int64), X.2.1 + 1, X.2.2.1 + 1, X.2.2.2.1 + 1, X.2.2.2.2.1 + ln X.2.1, X.2.2.2.2.2)) (e := .inl (gL G, ln X.2.1, .inr (.inl (fun _ => (0 : Int64))))) rfl (ceM_l e1) (fun i hi => ceM_nl (by omega) (fun q => absurd ((long_one q).trans (long_one e1).symm) (by omega)))
    rw [← hw]
    refine (fi.1.1.kept fun k x hx => w3 x.1 ?_).app fun k x hx => ?_
    · have := (fi.1.1 k x hx).lt
      omega
    · have hz : k < 1 := (List.getElem?_eq_some_iff.mp hx).1
      rw [show k = 0 by omega] at hx
      cases hx
      show H1[gb G + X.2.1]? = some (vp_cell _ _)
      rw [w1, vp_cell_l]
      congr 2
  have f9 := fi_new (fi_tl fi) e1 (by decide) (by decide) e2 hP (by rw [w2]) w3
  have h9 := ih _ _ _ _ _ _ _ _ h3 f9
  rw [cX_al hal, sX_al hal] at h9 ⊢
  exact h9
set_option maxHeartbeats 1000000 in
theorem fr_anewarray {i : Nat} (hx : p.tables.exec = Jvm.exec) (hb : c.code = cc) (ih : IHK p l e R s m args below meth c Q G mi nL ph K r0) (fi : FI G s H locs ph nL M X ls L st) (h : stp ph cl mi lv K (pc, .anewarray i, 3, tg, cv) L st M X = some r0) (hd : decode cc pc = .ok (.anewarray i, 3)) (hown : s.vm.findClass (cn (ownM mi)) = some m.cls) (hts : ∀ w ∈ gwT, w.before args s = true) (hSI : SI G s) (hRc : mcM mi ≤ R.cells) (hRs : msM mi ≤ R.slots) (hA : Cond.classLink (cn (ownM mi)) i "MergeBelts$State" ∈ gwT) : W p l e R s m args below meth c H locs (cX mi X) (sX mi X) Q (F0 m pc ls ((st).map (tvG G))) := by
  unfold stp at h
  dsimp only at h
  obtain ⟨n, q, rfl, h1⟩ := u1_inv h
  obtain ⟨hc, h2⟩ := bif_inv h1
  obtain ⟨⟨e1, e2, e3, e4, e5⟩, h3⟩ := ite_inv h2
  simp only [Bool.and_eq_true] at hc
  have hph : ph = false := by cases ph <;> first | rfl | cases hc.1
  subst hph
  have hal := hc.2
  have hH : H.size = gb G + X.2.1 := by rw [e2]; exact fi.1.2.1 e2
  refine W.anew hx hb hown (hts _ hA) (va_AO.use hSI.2.2.2.2.2.2.1) rfl hd rfl e3 (by rw [e4]; decide) (by rw [cX_al hal]; omega) (by rw [sX_al hal, e4]; omega) fun cA kA comp f1 f2 f3 f4 => ?_
  have hcA : cA = gS G := by
    obtain ⟨-, kB, cB, -, -, -, u4⟩ := hSI.2.1.2 2 _ rfl
    exact (Option.some.inj (u4.symm.trans f1)).symm
  subst hcA
  rw [e4]
  generalize hH1 : H.push ({ cls := gS G, slots := Array.replicate 10 .null, vm := .none } : Cell) = H1
  have w2 : H1.size = H.size + 1 := by rw [← hH1, Array.size_push]
  have w1 : H1[gb G + X.2.1]? = some (arrV (gS G) 10 (fun _ => .null)) := by rw [← hH, ← hH1, Array.getElem?_push_size, ← arrV_new]
  have w3 : ∀ q : Nat, q < gb G + X.2.1 → H1[q]? = H[q]? := fun q hq => by rw [← hH1, Array.getElem?_push, if_neg (by omega)]
  have hP : va_P (gD G) vwCl (wsM G (nlM M X.2.1) (X.1, X.2.1 + 1, X.2.2.1 + 1, X.2.2.2.1 + 1, X.2.2.2.2.1 + 10, X.2.2.2.2.2)) H1 := by
    have hw := wsM_push (G := G) (M := M) (M' := nlM M X.2.1) (X := X) (X' := (X.1, X.2.1 + 1, X.2.2.1 + 1, X.2.2.2.1 + 1, X.2.2.2.2.1 + 10, X.2.2.2.2.2)) (e := .inl (gS G, 10, .inr (.inr (.inr (.inr (cvM G (nlM M X.2.1) X.2.1)))))) rfl (ceM_s e1) (fun i hi => ceM_nl (by omega) (fun _ => rfl))
    rw [← hw]
    refine (fi.1.1.kept fun k x hx => w3 x.1 ?_).app fun k x hx => ?_
    · have := (fi.1.1 k x hx).lt
      omega
    · have hz : k < 1 := (List.getElem?_eq_some_iff.mp hx).1
      rw [show k = 0 by omega] at hx
      cases hx
      show H1[gb G + X.2.1]? = some (vp_cell _ _)
      rw [w1, vp_cell_q]
      congr 2
      funext j
      unfold cvM nlM
      rw [if_pos rfl, if_neg (by decide)]
      rfl
  have f9 := fi_new (fi_tl fi) e1 (by decide) (by decide) e2 hP (by rw [w2, hH]) w3
  have h9 := ih _ _ _ _ _ _ _ _ h3 f9
  rw [cX_al hal, sX_al hal] at h9 ⊢
  rw [hH]
  exact h9
/-- System.arraycopy between int arrays of ours -/
theorem cpM_self {a sp b dp n : Nat} (j : Nat) : cpM M a sp b dp n b j = va_cpy (M a) (M b) sp dp n j := by
  unfold cpM va_cpy
  by_cases h : dp ≤ j ∧ j < dp + n
  · rw [if_pos ⟨rfl, h⟩, if_pos h]
  · rw [if_neg (fun q => h q.2), if_neg h]
theorem cpM_ne {a sp b dp n i : Nat} (h : i ≠ b) : cpM M a sp b dp n i = M i := by
  funext j
  unfold cpM
  rw [if_neg (fun q => h q.1)]
theorem ceM_cp {a sp b dp n i : Nat} (h : i ≠ b) : ceM G (cpM M a sp b dp n) X i = ceM G M X i := by
  have e0 := cpM_ne (M := M) (a := a) (sp := sp) (dp := dp) (n := n) h
  have e1 : cvM G (cpM M a sp b dp n) i = cvM G M i := by funext j; unfold cvM; rw [e0]
  have e2 : fvM G (cpM M a sp b dp n) i = fvM G M i := by funext t j; unfold fvM; rw [e0]
  unfold ceM
  rw [e0, e1, e2]
set_option maxHeartbeats 1000000 in
theorem fr_copy {i a b : Nat} {sp dp n : Int32} {rest : List Value} {cells slots : Nat} (hx : p.tables.exec = Jvm.exec) (hb : c.code = cc) (hml : c.maxLocals = ls.size) (fi : FI G s H locs ph nL M X ls L st) (hown : s.vm.findClass (cn (ownM mi)) = some m.cls) (hts : ∀ w ∈ gwT, w.before args s = true) (hSI : SI G s)
    (hlink : Cond.methodLink (cn (ownM mi)) i arraycopyName ∈ gwT) (hnat : Cond.native arraycopyName ∈ gwT) (hstat : Cond.static arraycopyName ∈ gwT) (hini : Cond.initialized "java/lang/System" ∈ gwT)
    (hta : tyA a = 14) (htb : tyA b = 14) (hna : a < X.2.1) (hnb : b < X.2.1) (h1 : ¬ sp < 0) (h2 : ¬ dp < 0) (h3 : ¬ n < 0) (h4 : sp.toNatClampNeg + n.toNatClampNeg ≤ ln a) (h5 : dp.toNatClampNeg + n.toNatClampNeg ≤ ln b)
    (hframes : 1 ≤ R.frames) (hlocals : (rest.map fun v => v.category).sum + (nativeFrameWords "java/lang/System" "arraycopy" 5 + 11) ≤ R.locals) (hdg : decode cc pc = .ok (.invokestatic i, 3))
    (kk : ∀ (H1 : Heap) (lc : List Loc), FI G s H1 lc ph nL (cpM M a sp.toNatClampNeg b dp.toNatClampNeg n.toNatClampNeg) X ls L st → W p l e R s m args below meth c H1 lc cells slots Q (F0 m (pc + 3) ls rest)) :
    W p l e R s m args below meth c H locs cells slots Q (F0 m pc ls (.int n :: .int dp :: .ref (gb G + b) :: .int sp :: .ref (gb G + a) :: rest)) := by
  have nn : ∀ z : Int32, ¬ z < 0 → z.toInt = (z.toNatClampNeg : Int) := by
    intro z hz
    have hz0 : (0 : Int) ≤ z.toInt := by
      have := Int32.not_lt.mp hz
      simpa using Int32.le_iff_toInt_le.mp this
    show z.toInt = ((z.toInt.toNat : Nat) : Int)
    omega
  intro T hT XX
  have ha0 := ws_ai (G := G) (M := M) hta hna
  have hb0 := ws_ai (G := G) (M := M) htb hnb
  have hc0 : H[gb G + a]? = some (vp_cell (gI G) (ln a, .inl (M a))) := fi.1.1 a _ ha0
  have hc1 : H[gb G + b]? = some (vp_cell (gI G) (ln b, .inl (M b))) := fi.1.1 b _ hb0
  obtain ⟨-, k0, hk0, cm0, hkk0⟩ := (hSI.2.1.2 0 _ rfl).1 (ln a) (fun j => .int (M a j))
  obtain ⟨vm', X', step⟩ := XX.arraycopy hx hown (hts _ hlink) (hts _ hnat) (hts _ hstat) (hts _ hini) (src := gb G + a) (dst := gb G + b) (cs := vp_cell (gI G) (ln a, .inl (M a))) (cd := vp_cell (gI G) (ln b, .inl (M b))) (srcPos := sp) (destPos := dp) (n := n) (by rw [hT]; exact hc0) (by rw [hT]; exact hc1)
    (fun _ h => by cases h) (fun _ h => by cases h) (fun h => by cases h) (fun h => by cases h) hk0 hk0 hkk0 hkk0 (by rfl) h1 h2 h3
    (by rw [nn sp h1, nn n h3]; show ¬ _ > ((arrV (gI G) (ln a) (fun j => .int (M a j))).slots.size : Int); rw [arrV_size]; omega)
    (by rw [nn dp h2, nn n h3]; show ¬ _ > ((arrV (gI G) (ln b) (fun j => .int (M b j))).slots.size : Int); rw [arrV_size]; omega)
    (fun vm₁ _ i hi => by
      have e : (vp_cell (gI G) (ln a, .inl (M a))).slots.getD (sp.toNatClampNeg + i) .null = .int (M a (sp.toNatClampNeg + i)) := by
        show (arrV (gI G) (ln a) (fun j => .int (M a j))).slots.getD _ _ = _
        rw [Array.getD_eq_getD_getElem?, arrV_read _ _ (by omega)]
        rfl
      refine ⟨?_, ?_⟩
      · rw [e]
        rfl
      · rw [e]
        exact trivial)
    (g := F0 m pc ls (.int n :: .int dp :: .ref (gb G + b) :: .int sp :: .ref (gb G + a) :: rest)) rfl (by rw [hml]) (rest := rest) rfl (by rw [hb]; exact hdg) hframes (by show 2 * 0 + _ + _ ≤ _; omega)
  have e1 : copied (vp_cell (gI G) (ln a, .inl (M a))) (vp_cell (gI G) (ln b, .inl (M b))) sp dp n = vp_cell (gI G) (ln b, .inl (va_cpy (M a) (M b) sp.toNatClampNeg dp.toNatClampNeg n.toNatClampNeg)) := va_copied (fun z => .int z) (gI G) (gI G) (M a) (M b) h4
  rw [e1] at X' step
  generalize hcl : vp_cell (gI G) (ln b, .inl (va_cpy (M a) (M b) sp.toNatClampNeg dp.toNatClampNeg n.toNatClampNeg)) = ce at X' step
  have hl : gb G + b < H.size := (Array.getElem?_eq_some_iff.mp hc1).1
  have hheap : ((T.setVm vm').setCell (gb G + b) ce).heap = H.setIfInBounds (gb G + b) ce := by rw [← hT]; rfl
  have oq : ∀ q : Nat, q ≠ gb G + b → (H.setIfInBounds (gb G + b) ce)[q]? = H[q]? := fun q hq => by simp [Array.getElem?_setIfInBounds, Ne.symm hq]
  have hP := fi.1.1.set wsM_D hb0 (e := .inl (gI G, ln b, .inl (fun j => cpM M a sp.toNatClampNeg b dp.toNatClampNeg n.toNatClampNeg b j))) (H1 := H.setIfInBounds (gb G + b) ce) ?_ oq
  · rw [wsM_set (M' := cpM M a sp.toNatClampNeg b dp.toNatClampNeg n.toNatClampNeg) (ceM_i htb) (fun j hj => ceM_cp hj)] at hP
    have hz : (H.setIfInBounds (gb G + b) ce).size = H.size := by simp
    obtain ⟨t, a1, b1⟩ := kk _ _ ⟨⟨hP, fun q => by rw [hz]; exact fi.1.2.1 q, fi.1.2.2.1, fun j hj => by rw [cpM_ne (by have := tyA_lt (a := b) (by rw [htb]; decide); omega)]; exact fi.1.2.2.2.1 j hj, rf_cp fi.1.2.2.2.2.1 htb, fi.1.2.2.2.2.2⟩, fun q => set_cp (fi.2.1 q) htb,
      ⟨by rw [hz]; exact fi.2.2.1.1, fun q g1 g2 => by rw [oq q (fun e => g2 (by rw [e]; exact Nat.le_add_right _ _))]; exact fi.2.2.1.2.1 q g1 g2, fun q hq => by
        rcases List.mem_append.mp hq with h | h
        · exact fi.2.2.1.2.2 q h
        · obtain ⟨z, -, hz⟩ := List.mem_map.mp h
          rw [← hz]
          exact Nat.le_add_right _ _⟩, fi.2.2.2⟩ _ hheap X'
    exact ⟨t, step t a1, b1⟩
  · show (H.setIfInBounds (gb G + b) ce)[gb G + b]? = some (vp_cell _ _)
    rw [show (fun j => cpM M a sp.toNatClampNeg b dp.toNatClampNeg n.toNatClampNeg b j) = va_cpy (M a) (M b) sp.toNatClampNeg dp.toNatClampNeg n.toNatClampNeg from funext fun j => cpM_self j, hcl]
    simp [Array.getElem?_setIfInBounds, hl]
end FRC
