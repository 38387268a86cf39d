/-! the law's frame -/
section LAWF
set_option maxRecDepth 100000
variable {p : Program} {l : Launch} {e : Env} {R : Room} {s : State} {m : MethodId} {args : Array Value} {below : List Frame} {meth : Method} {c : Code} {Q : State → Prop} {cc : ByteArray} {G : EG} {mi lv nL : Nat} {ph : Bool} {r0 : PRs} {pc : Nat} {L st : List PV} {ls : Array Slot} {M : Mem} {X : PX} {H : Heap} {locs : List Loc} {cl : Nat → Nat → List PV → Mem → PX → Option PRs} {K : KT}
theorem kCall_inw {w : Nat × Nat × Nat × Nat × Nat × Nat × Nat} {nx : Nat} {as r : List PV} (hw : w.2.2.2.2.1 = 1) (h : kCall ph cl mi lv K nx w as L r M X = some r0) : wg r ≤ 8 ∧ plen (expd as) ≤ w.2.2.2.1 ∧ alM mi = true ∧ (X.2.2.2.1 + w.2.2.2.2.2.1 ≤ mcM mi ∧ X.2.2.2.2.1 + w.2.2.2.2.2.2 ≤ msM mi) ∧ ∃ q : PRs, cl w.2.1 0 (padl w.2.2.2.1 (expd as)) M (enX 1 X) = some q ∧ kRet ph (alM mi) mi w.2.2.2.2.2.1 w.2.2.2.2.2.2 nx K L r X q = some r0 := by
  unfold kCall at h
  obtain ⟨hc, h1⟩ := bif_inv h
  simp only [Bool.and_eq_true] at hc
  rw [hw] at h1
  obtain ⟨ha, h2⟩ := bif_inv (show (bif alM mi then (if X.2.2.2.1 + w.2.2.2.2.2.1 ≤ mcM mi ∧ X.2.2.2.2.1 + w.2.2.2.2.2.2 ≤ msM mi then (cl w.2.1 0 (padl w.2.2.2.1 (expd as)) M (enX 1 X)).bind (kRet ph (alM mi) mi w.2.2.2.2.2.1 w.2.2.2.2.2.2 nx K L r X) else none) else none) = some r0 from h1)
  obtain ⟨hb, h3⟩ := ite_inv h2
  obtain ⟨q, g1, g2⟩ := bind_inv h3
  exact ⟨Nat.le_of_ble_eq_true hc.1, Nat.le_of_ble_eq_true hc.2, ha, hb, q, g1, g2⟩
def lwE (cc : ByteArray) (mi : Nat) (e : PE) : Bool := match e.2.1 with
  | .invokestatic i => Nat.beq e.2.2.1 3 && decide (decode cc e.1 = .ok (.invokestatic i, 3)) && (match lkp (mthP (ownM mi)) i, lkp (mwP (ownM mi)) i with
    | some w, some z => Nat.beq w.1 1 && Nat.beq (mkM w.2.1) 2 && isCw w.2.1 && Nat.beq w.2.2.2.1 (mlN w.2.1) && Nat.beq w.2.2.2.2.1 1 && (Nat.beq w.2.2.2.2.2.1 (mcM w.2.1) && Nat.beq w.2.2.2.2.2.2 (msM w.2.1)) && hasW z.2.2.2 (.initialized (yN w.2.1).cls) &&
      (decide ((yN w.2.1).cls ≠ "java/lang/invoke/MethodHandle") && decide ((yN w.2.1).cls ≠ "java/lang/invoke/VarHandle")) && decide ((parseMethodDescriptor (yN w.2.1).desc).map (fun d => d.parameters.length) = some w.2.2.1) && Nat.ble (mlN w.2.1) 41 && Nat.blt (rankM w.2.1 0) (rankM mi 0) && (hasW z.1 (.methodLink (cn (ownM mi)) i (yN w.2.1)) && hasW z.2.1 (.static (yN w.2.1)))
    | _, _ => false)
  | _ => false
set_option maxHeartbeats 2000000 in
theorem step_lw {i : Instr × Nat × Nat × Int32} (hx : p.tables.exec = Jvm.exec) (hb : c.code = cc) (hF : CF l R s m args c G mi 0 nL) (hCW : ∀ m', mkM m' = 2 → CONw l G m') (hNc : NC s) (hth : lwE cc mi (pc, i) = true) :
    ∀ (K : KT) (cl : Nat → Nat → List PV → Mem → PX → Option PRs) (L st : List PV) (M : Mem) (X : PX) (H : Heap) (locs : List Loc) (ls : Array Slot), stp true cl mi 0 K (pc, i) L st M X = some r0 → CL true cl → IHK p l e R s m args below meth c Q G mi nL true K r0 → FI G s H locs true nL M X ls L st → BD mi X → W p l e R s m args below meth c H locs (cX mi X) (sX mi X) Q (F0 m pc ls (st.map (tvG G))) := by
  intro K cl L st M X H locs ls h hcl ih fi hB
  have hF0 := hF
  obtain ⟨hml, hown, hts, hSI, hRc, hRs, hRf, hRl, hlv, hCT, hCON⟩ := hF
  obtain ⟨ins, len, tg, cv⟩ := i
  unfold lwE at hth
  dsimp only at hth
  split at hth
  · next _ i =>
    rw [Bool.and_eq_true, Bool.and_eq_true, decide_eq_true_eq] at hth
    obtain ⟨⟨hlen, hd⟩, hth⟩ := hth
    have hlen := nbeq_t hlen
    subst hlen
    unfold stp at h
    dsimp only at h
    obtain ⟨w, hw, h1⟩ := bind_inv h
    rw [hw] at hth
    cases hz : lkp (mwP (ownM mi)) i with
    | none => rw [hz] at hth; cases hth
    | some z =>
    rw [hz] at hth
    dsimp only at hth
    simp only [Bool.and_eq_true, decide_eq_true_eq] at hth
    obtain ⟨⟨⟨⟨⟨⟨⟨⟨⟨⟨⟨k1, kmk⟩, kcw⟩, kml⟩, kal⟩, kmc, kms⟩, kini⟩, kcls⟩, kpar⟩, k41⟩, krk⟩, klink, kst⟩ := hth
    have k1 := nbeq_t k1
    have kmk := nbeq_t kmk
    have kml := nbeq_t kml
    have kal := nbeq_t kal
    have kmc := nbeq_t kmc
    have kms := nbeq_t kms
    have k41 := Nat.le_of_ble_eq_true k41
    have krk := lt_of_blt krk
    have kgw := cw_gw kcw
    have kcd := cw_ok kcw
    rw [k1] at h1
    have h2 : ((popn w.2.2.1 [] st).bind fun q => kCall true cl mi 0 K (pc + 3) w q.1 L q.2 M X) = some r0 := h1
    obtain ⟨q, hq, h4⟩ := bind_inv h2
    obtain ⟨as, a1, a2, a3⟩ := popn_inv _ _ _ _ hq
    obtain ⟨q1, r⟩ := q
    rw [List.append_nil] at a3
    dsimp only at a2 a3 h4
    subst a3
    subst a2
    obtain ⟨g1, g2, g3, g4, q9, g5, g6⟩ := kCall_inw kal h4
    rw [kml] at g2 g5
    rw [kmc, kms] at g4 g6
    obtain ⟨ev9, px9⟩ := hcl _ _ _ _ _ _ g5
    have fr := fi_rev fi
    have frr : FI G s H locs true nL M X ls L r := fi_st fr fun v hv => fr.2.2.2.2.2.1 v (List.mem_append_right _ hv)
    have hM := hCW w.2.1 kmk q1 M (enX 1 X) q9 ev9 (in9 fr g2 rfl (fun _ => ⟨rfl, rfl⟩))
    have hwg := cat_wg (G := G) frr.2.2.2.2.2.2 r frr.2.2.2.2.2.1
    have hcsw : vx_CSW R s args (cn (ownM mi)) i (yN w.2.1) (byN w.2.1) (mlN w.2.1) (rtN w.2.1) (hhN w.2.1) (cdN w.2.1 :: gwT) (rmM w.2.1 0) (mcM w.2.1) (msM w.2.1) w.2.2.1 := by
      refine ⟨⟨rfl, rfl, Nat.le_trans krk hRf, by show 8 + (mlN w.2.1 + 11) + 60 * rankM w.2.1 0 ≤ R.locals; omega, pay_in (big := gwT) hts fun x hx => ?_, by rw [kcd]; exact List.mem_cons_self⟩, hts _ kgw, hts _ (hasW_in kini), kcls, fun sig h => ?_, hts _ (hasW_in klink), hts _ (hasW_in kst)⟩
      · rcases List.mem_cons.mp hx with rfl | hx
        · rw [kcd]; exact gw_good kgw
        · exact gw_good hx
      · rw [h] at kpar
        exact (Option.some.inj kpar).symm
    refine call9 (m9 := w.2.1) (X9 := enX 1 X) (mc := mcM w.2.1) (ms := msM w.2.1) (vx_runSW (hh := hhN w.2.1) (As := q1.map (tvG G)) (rest := r.map (tvG G)) ⟨hx, hb, hml, hown, hts⟩ hM hcsw ⟨PcW_blind, fun U hU hW => ?_⟩ rfl (by rw [List.length_map]; exact a1) fr.2.2.2.1.2.1 (by show (q1.reverse ++ r).map (tvG G) = _; rw [List.map_append, List.map_reverse]) (by show 2 * 0 + _ ≤ 8; rw [hwg]; omega) hd ?_) frr ih g6 px9 rfl (fun z => by rw [g3] at z; cases z)
    · obtain ⟨z0, z1, z2, z3⟩ := pc9_at (as := q1) (X9 := enX 1 X) hSI frr rfl frr.1 hU hW
      exact ⟨z0, ⟨z1, z2, z3⟩, va_Nc.moved hW.alike hNc⟩
    · unfold cX sX
      rw [g3]
      exact ⟨Nat.le_trans g4.1 hRc, Nat.le_trans g4.2 hRs⟩
  · cases hth
end LAWF
