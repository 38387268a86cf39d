/-! the law's body, from its entry to its end -/
section LWF
set_option maxRecDepth 100000
def lwP (pc : Nat) : Bool := [0, 3, 4, 7, 8, 11, 12, 15, 16, 17, 19, 20].elem pc
variable {p : Program} {l : Launch} {e : Env} {s : State} {m : MethodId} {below : List Frame} {meth : Method} {c : Code} {G : EG} {b : Nat} {r0 : PRs} {M9 : Mem} {X9 : PX}
/-- the law's frame knows -/
def LK (p : Program) (l : Launch) (s : State) (m : MethodId) (meth : Method) (c : Code) (G : EG) (b : Nat) : Prop :=
  p.tables.exec = Jvm.exec ∧ c.code = code ∧ meth.sig.returnType = ret ∧ meth.locks = false ∧ CF l room_1 s m #[Value.ref b] c G 311 0 8 ∧ NC s ∧ gb G = s.heap.size ∧ l.stackTraces = false
theorem lw_iret {ph : Bool} {pc : Nat} {L : List PV} {x : Int32} {M : Mem} {X : PX} {H : Heap} {locs : List Loc} {ls : Array Slot} (hK : LK p l s m meth c G b) (hB : X9.2.2.2.1 ≤ 601024 ∧ X9.2.2.2.2.1 ≤ 7293034) (hd : decode code pc = .ok (.ireturn, 1)) (h0 : (.inl (some (pI 1)), M9, X9) = ((.inl (some (pI x)), M, X) : PRs)) (fi : FI G s H locs ph 8 M X ls L []) : W p l e room_1 s m #[Value.ref b] below meth c H locs (cX 311 X) (sX 311 X) (lw_Z below #[Value.ref b] s) (F0 m pc ls [.int x]) := by
  obtain ⟨hx, hb, hr, hlocks, hF, hNc, hgb, hl⟩ := hK
  cases h0
  refine va_forget (fun q hq => ?_) (W.widen (k := 601024) (n := 7293034) hB.1 hB.2 (lw_ret hx hb hr hlocks hd))
  have h5 : gb G ≤ q.base := fi.2.2.1.2.2 q hq
  rw [← hgb]
  exact h5
theorem lw_ends {ph0 : Bool} (hK : LK p l s m meth c G b) (hB : X9.2.2.2.1 ≤ 601024 ∧ X9.2.2.2.2.1 ≤ 7293034) : ENDS p l e room_1 s m #[Value.ref b] below meth c (lw_Z below #[Value.ref b] s) code G 311 8 ph0 (.inl (some (pI 1)), M9, X9) := by
  intro ph pc o L M X H locs ls hd h0 fi hph
  rcases hd with ⟨hd, -, x, rfl, -⟩ | ⟨hd, -, x, rfl⟩ | ⟨hd, -, rfl⟩
  · exact lw_iret hK hB hd h0 fi
  · cases h0
  · cases h0
theorem lw_step_r {ph0 : Bool} {lv pc : Nat} {i : Instr × Nat × Nat × Int32} (hK : LK p l s m meth c G b) (hB : X9.2.2.2.1 ≤ 601024 ∧ X9.2.2.2.2.1 ≤ 7293034) (hc : lwR (pc, i) = true) : STEP p l e room_1 s m #[Value.ref b] below meth c (lw_Z below #[Value.ref b] s) G 311 lv 8 ph0 (.inl (some (pI 1)), M9, X9) pc i := by
  intro ph cl K L st M X H locs ls h hcl ih fi h0 hB9
  obtain ⟨ins, len, tg, cv⟩ := i
  unfold lwR at hc
  dsimp only at hc
  split at hc
  · have hd := of_decide_eq_true hc
    unfold stp at h
    dsimp only at h
    obtain ⟨x, q, rfl, h1⟩ := u1_inv h
    obtain ⟨rfl, h3⟩ := ue_inv h1
    obtain ⟨h4, h5⟩ := ite_inv h3
    exact lw_iret hK hB hd (Option.some.inj h5).symm (fi_tl fi)
  · cases hc
theorem lw_true (hK : LK p l s m meth c G b) (hB : X9.2.2.2.1 ≤ 601024 ∧ X9.2.2.2.2.1 ≤ 7293034) : ∀ (n : Nat) (pc : Nat) (L st : List PV) (M : Mem) (X : PX) (H : Heap) (locs : List Loc) (ls : Array Slot), run n true 311 0 pc L st M X = some (.inl (some (pI 1)), M9, X9) → FI G s H locs true 8 M X ls L st → W p l e room_1 s m #[Value.ref b] below meth c H locs (cX 311 X) (sX 311 X) (lw_Z below #[Value.ref b] s) (F0 m pc ls (st.map (tvG G))) := by
  intro n pc L st M X H locs ls h fi
  have hE := lw_ends (e := e) (below := below) (M9 := M9) (X9 := X9) (ph0 := true) hK hB
  have hK9 := hK
  obtain ⟨hx, hb, hr, hlocks, hF, hNc, hgb, hl⟩ := hK
  refine frame9 (ph0 := true) (lv := 0) (fun pc i hi => ?_) (fun _ => hB) n true pc L st M X H locs ls h fi (fun z => z)
  have hc := List.all_eq_true.mp lwc _ (lkp_mem hi)
  unfold lwK at hc
  rw [Bool.or_eq_true, Bool.or_eq_true, Bool.and_eq_true] at hc
  rcases hc with (⟨hc, hp⟩ | hc) | hc
  · refine step_ck (cc := code) hx hb hF (po_all _ (own_lt 311 (by decide))) (fun hk => ?_) (by decide +kernel) (by decide +kernel) (by decide +kernel) aw_i aw_l hE hc
    obtain ⟨k, hk⟩ := hk
    unfold nPut at hp
    rw [hk] at hp
    cases hp
  · intro ph cl K L st M X H locs ls h hcl ih fi h0 hB9
    have hph := h0 rfl
    subst hph
    exact step_lw (cc := code) hx hb hF (cw_all hl) hNc hc K cl L st M X H locs ls h hcl ih fi hB9
  · exact lw_step_r hK9 hB hc
def kCut (K : KT) : KT := fun pc L st M X => bif lwP pc then K pc L st M X else none
theorem cut_all {cl : Nat → Nat → List PV → Mem → PX → Option PRs} {K : KT} {pc : Nat} {L st : List PV} {M : Mem} {X : PX} (h : lwP pc = true) (h20 : pc ≠ 20) : ∃ i, lkp (pt 311) pc = some i ∧ psw 311 pc = false ∧ lwE code 311 (pc, i) = false ∧ lwR (pc, i) = false ∧ stp false cl 311 0 K (pc, i) L st M X = stp false cl 311 0 (kCut K) (pc, i) L st M X := by
  unfold lwP at h
  have h := List.elem_iff.mp h
  simp only [List.mem_cons, List.not_mem_nil, or_false] at h
  rcases h with rfl | rfl | rfl | rfl | rfl | rfl | rfl | rfl | rfl | rfl | rfl | rfl
  · exact ⟨_, rfl, rfl, rfl, rfl, rfl⟩
  · exact ⟨_, rfl, rfl, rfl, rfl, rfl⟩
  · exact ⟨_, rfl, rfl, rfl, rfl, rfl⟩
  · exact ⟨_, rfl, rfl, rfl, rfl, rfl⟩
  · exact ⟨_, rfl, rfl, rfl, rfl, rfl⟩
  · exact ⟨_, rfl, rfl, rfl, rfl, rfl⟩
  · exact ⟨_, rfl, rfl, rfl, rfl, rfl⟩
  · exact ⟨_, rfl, rfl, rfl, rfl, rfl⟩
  · exact ⟨_, rfl, rfl, rfl, rfl, rfl⟩
  · exact ⟨_, rfl, rfl, rfl, rfl, rfl⟩
  · exact ⟨_, rfl, rfl, rfl, rfl, rfl⟩
  · exact absurd rfl h20
theorem lw_false (hK : LK p l s m meth c G b) (hB : X9.2.2.2.1 ≤ 601024 ∧ X9.2.2.2.2.1 ≤ 7293034) : ∀ (n : Nat) (pc : Nat) (L st : List PV) (M : Mem) (X : PX) (H : Heap) (locs : List Loc) (ls : Array Slot), lwP pc = true → run n false 311 0 pc L st M X = some (.inl (some (pI 1)), M9, X9) → FI G s H locs false 8 M X ls L st → W p l e room_1 s m #[Value.ref b] below meth c H locs (cX 311 X) (sX 311 X) (lw_Z below #[Value.ref b] s) (F0 m pc ls (st.map (tvG G))) := by
  intro n
  induction n with
  | zero => intro pc L st M X H locs ls hp h; cases h
  | succ n ih =>
    intro pc L st M X H locs ls hp h fi
    have hBx : BD 311 X := fun ha => by
      have h1 := (run_P (n + 1) _ h).2.2.2.2 ha
      exact ⟨Nat.le_trans h1.1 hB.1, Nat.le_trans h1.2 hB.2⟩
    have h : stA (fun ph m' lv' as M X => run n ph m' lv' 0 as [] M X) (fun ph => run n ph 311 0) false 311 0 pc L st M X = some (.inl (some (pI 1)), M9, X9) := h
    unfold stA at h
    by_cases h20 : pc = 20
    · subst h20
      obtain ⟨h1, h2⟩ := ite_inv (show (if setA X.2.1 M = true then run n true 311 0 20 L st M X else none) = some (.inl (some (pI 1)), M9, X9) from h)
      exact lw_true hK hB n 20 L st M X H locs ls h2 ⟨fi.1, fun _ => h1, fi.2.2⟩
    · obtain ⟨i, hi, hp0, hl0, hl1, hcut⟩ := cut_all (cl := fun m' lv' as M X => run n false m' lv' 0 as [] M X) (K := run n false 311 0) (L := L) (st := st) (M := M) (X := X) hp h20
      rw [hp0, hi] at h
      have h1 : stp false (fun m' lv' as M X => run n false m' lv' 0 as [] M X) 311 0 (run n false 311 0) (pc, i) L st M X = some (.inl (some (pI 1)), M9, X9) := h
      rw [hcut] at h1
      have hE := lw_ends (e := e) (below := below) (M9 := M9) (X9 := X9) (ph0 := false) hK hB
      have hK9 := hK
      obtain ⟨hx, hb, hr, hlocks, hF, hNc, hgb, hl⟩ := hK
      have hc := List.all_eq_true.mp lwc _ (lkp_mem hi)
      unfold lwK at hc
      rw [hl0, hl1, Bool.or_false, Bool.or_false, Bool.and_eq_true] at hc
      refine step_ck (ph0 := false) (cc := code) hx hb hF (po_all _ (own_lt 311 (by decide))) (fun hk => ?_) (by decide +kernel) (by decide +kernel) (by decide +kernel) aw_i aw_l hE hc.1 false _ _ L st M X H locs ls h1 (fun m' lv' as M X q hq => ⟨ev_run hq, run_P n q hq⟩) (fun pc L st M X H locs ls h2 f2 => ?_) fi (fun z => z) hBx
      · obtain ⟨k, hk⟩ := hk
        have hp := hc.2
        unfold nPut at hp
        rw [hk] at hp
        cases hp
      · unfold kCut at h2
        obtain ⟨hp2, h3⟩ := bif_inv h2
        exact ih pc L st M X H locs ls hp2 h3 f2
end LWF
