/-! the law's contract out of the small machine's run -/
section SIA
set_option maxRecDepth 100000
theorem kt_ok {k : Nat} (hk : k < 13) : kci (ktI k) = k ∧ 1 ≤ ktI k ∧ ktI k ≤ 13 ∧ Cond.instantiable (clT (ktI k)).1 (clT (ktI k)).2.2 ∈ gwT := by
  have h := List.all_eq_true.mp kt_ck k (List.mem_range.mpr hk)
  rw [Bool.and_eq_true, Bool.and_eq_true, Bool.and_eq_true] at h
  exact ⟨nbeq_t h.1.1.1, Nat.le_of_ble_eq_true h.1.1.2, Nat.le_of_ble_eq_true h.1.2, hasW_in h.2⟩
theorem kn_one {s : State} {args : Array Value} (hts : ∀ w ∈ gwT, w.before args s = true) (k : Nat) : ∃ q : ClassId × (Nat → Nat), k < 13 → ∀ r, vwCl[k]? = some r → u_Kn s r.1 r.2.1 r.2.2 q.1 q.2 := by
  rcases Nat.lt_or_ge k 13 with hk | hk
  · obtain ⟨h1, h2, h3, h4⟩ := kt_ok hk
    obtain ⟨c1, -, c3, -⟩ := ct_all _ h2 h3
    obtain ⟨cC, iS, h⟩ := u_known (C := (clT (ktI k)).1) (T := (clT (ktI k)).2.1) (N := (clT (ktI k)).2.2) hts c3 (hts _ h4)
    refine ⟨(cC, iS), fun _ r hr => ?_⟩
    rw [h1] at c1
    rw [c1] at hr
    cases hr
    exact h
  · exact ⟨(0, fun _ => 0), fun h => absurd h (by omega)⟩
/-- the small machine's start -/
def M00 (xs : Nat → Int32) : Mem := fun a k => if a = 900 then xs k else 0
theorem whole_of {p : Program} {e : Env} {s : State} {m : MethodId} {below : List Frame} {meth : Method} {c : Code} (l : Launch) (hflags : l.flags = flags0) {b L : Nat} {xs : Nat → Int32} (C0 : lw_At p s m meth c b L xs)
    (hgo : ∃ M' X', ev false 311 0 0 (padl 8 (expd [pR 17 0])) [] (M00 xs) (0, 0, 0, 0, 0, L) = some (.inl (some (pI 1)), M', X')) : W p l e room_1 s m #[Value.ref b] below meth c s.heap [] 0 0 (lw_Z below #[Value.ref b] s) (entryFrame m ([Value.ref b] : List Value).toArray 8) := by
  obtain ⟨hx, hb, hr, hml, hown, htl, hX, hbl, hlocks, hgv⟩ := C0
  have hts : ∀ w ∈ gwT, w.before #[Value.ref b] s = true := fun w hw => htl w (List.mem_filter.mp hw).1
  have hst : l.stackTraces = false := by unfold Launch.stackTraces; rw [hflags]; decide +kernel
  have hA : ∀ a : Nat, a < s.heap.size → ¬ (fun q : Nat => s.heap.size ≤ q) a := fun a ha h => absurd h (Nat.not_le.mpr ha)
  have hwd : ∀ {i : Nat} {w : Cond}, lw_tbl[i]? = some w → w.before #[Value.ref b] s = true := fun h => htl _ (List.mem_of_getElem? h)
  -- classes
  have k0 := kn_one hts
  let dC : Nat → ClassId := fun k => (k0 k).choose.1
  let dI : Nat → Nat → Nat := fun k => (k0 k).choose.2
  have kK : ∀ (k : Nat) (q : vw_C), vwCl[k]? = some q → u_Kn s q.1 q.2.1 q.2.2 (dC k) (dI k) := fun k q hq => (k0 k).choose_spec (by
    have := (List.getElem?_eq_some_iff.mp hq).1
    exact this) q hq
  -- array classes
  obtain ⟨cI, kI, pI9, i1, i2, i3⟩ := Cond.arrayClass_spec (hts _ aw_i)
  obtain ⟨cL, kL, pL9, j1, j2, j3⟩ := Cond.arrayClass_spec (hts _ aw_l)
  have hao : (Cond.arrayOver (.object "MergeBelts$State")).before #[Value.ref b] s = true := hwd (i := 528) (by decide +kernel)
  obtain ⟨pS, cS, kS, s1, s2, s3, s4, s5⟩ := Cond.arrayOver_spec hao
  -- Strings
  have t0 := st_one (A := fun q : Nat => s.heap.size ≤ q) hgv hA
  let K : Nat → Nat := fun k => (t0 k).choose.1
  let V : Nat → Nat := fun k => (t0 k).choose.2
  have hK : ∀ k, k < 22 → SO k (K k) (V k) (fun q : Nat => s.heap.size ≤ q) s ∧ (smTm k).eval #[Value.ref b] s none [] s = some (.ref (K k)) := fun k hk => (t0 k).choose_spec hk
  -- the carried reference
  have hsf : (Cond.isRef (.static "jdk/internal/util/Preconditions" "SIOOBE_FORMATTER" "Ljava/util/function/BiFunction;")).before #[Value.ref b] s = true := inN_of hgv (i := 7) (by decide +kernel)
  obtain ⟨u, hu, hur⟩ : ∃ u, (Term.static "jdk/internal/util/Preconditions" "SIOOBE_FORMATTER" sioD).eval #[Value.ref b] s none [] s = some u ∧ (u = .null ∨ ∃ q, u = .ref q) := by
    cases hv : (Term.static "jdk/internal/util/Preconditions" "SIOOBE_FORMATTER" "Ljava/util/function/BiFunction;").eval #[Value.ref b] s none [] s with
    | none => simp [Cond.before, Cond.holds, Cond.value, hv] at hsf
    | some u =>
      refine ⟨u, rfl, ?_⟩
      cases u <;> simp [Cond.before, Cond.holds, Cond.value, hv, Value.isRef] at hsf ⊢
  have hcs : (Term.static "java/lang/String" "COMPACT_STRINGS" "Z").eval #[Value.ref b] s none [] s = some (.int 1) := by
    obtain ⟨y, h1, h2⟩ := Cond.eq_one (inN_of hgv (w := .eq (.static "java/lang/String" "COMPACT_STRINGS" "Z") (.int 1)) (i := 6) (by decide +kernel))
    have h2 : some (Value.int 1) = some y := h2
    rw [h1, ← h2]
  let G : EG := (s.heap.size, dC, dI, cI, cL, cS, K, V, u, b, xs, L)
  have hgA : gA G = fun q : Nat => s.heap.size ≤ q := rfl
  have hSI : SI G s := by
    refine ⟨Nat.le_refl _, ⟨kK, fun k q hk => ?_⟩, ⟨fun i hi => (hK i hi).1, fun i j hi hj hij => ?_⟩, fun o i k ho hk => ?_, ?_, ?_, va_AO.of hao, fun w hw hs => ?_, ?_, ?_, hbl, hX⟩
    · match k, hk with
      | 0, hk => cases hk; exact ⟨arr_of i2 i3, i1⟩
      | 1, hk => cases hk; exact ⟨arr_of j2 j3, j1⟩
      | 2, hk => cases hk; exact ⟨arr_of s3 s4, kS, pS, s3, s4, s1, s5⟩
      | k + 3, hk => cases hk
    · have h2 := (hK j hj).1
      have h1 := (hK i hi).1
      have hij : K i = K j := hij
      rw [← hij] at h2
      exact so_inj hi hj h1 h2
    · obtain ⟨z, hz⟩ := zipC_in (List.all_eq_true.mp cs_ck o (List.mem_range.mpr ho)) _ (lkp_mem hk)
      have hz : (Nat.blt k 22 && decide (lw_tbl[z.2.1]? = some (.stringRef (cn o) i z.1)) && (decide (smO k = (cn o, i)) || inN (.eq (smTm k) (.string (cn o) i)) z.2.2)) = true := hz
      rw [Bool.and_eq_true, Bool.and_eq_true, decide_eq_true_eq, Bool.or_eq_true, decide_eq_true_eq] at hz
      obtain ⟨⟨z1, z2⟩, z3⟩ := hz
      have z1 := lt_of_blt z1
      refine ⟨z1, z.1, vk_R.of (hwd z2) ?_⟩
      have h1 := (hK k z1).2
      rcases z3 with z3 | z3
      · unfold smTm at h1
        rw [z3] at h1
        exact h1
      · obtain ⟨y, y1, y2⟩ := Cond.eq_one (inN_of hgv z3)
        rw [h1] at y1
        rw [y2, ← y1]
        rfl
    · exact va_Zof (hwd (i := 828) (by decide +kernel)) (hwd (i := 129) (by decide +kernel)) hcs hA
    · exact va_Zof (hwd (i := 844) (by decide +kernel)) (hwd (i := 131) (by decide +kernel)) hu hA
    · refine va_Nw.of ?_ (htl w hw)
      cases w <;> first | rfl | cases hs
    · exact vx_Zqof (hwd (i := 751) (by decide +kernel)) (hwd (i := 125) (by decide +kernel)) (inN_of hgv (i := 4) (by decide +kernel)) hA
    · exact vx_Zqof (hwd (i := 753) (by decide +kernel)) (hwd (i := 125) (by decide +kernel)) (inN_of hgv (i := 5) (by decide +kernel)) hA
  have hNc : NC s := va_Nc.of (inN_of hgv (w := .not (.castable "java/lang/IllegalArgumentException" "java/util/NoSuchElementException")) (i := 38) (by decide +kernel))
  have hF : CF l room_1 s m #[Value.ref b] c G 311 0 8 := ⟨hml, hown, hts, hSI, by decide +kernel, by decide +kernel, by decide +kernel, by decide +kernel, ⟨Nat.zero_le _, fun _ => rfl⟩, ct_all, fun m' lv' h1 h2 h3 h4 => con_all _ m' lv' (Nat.le_refl _) h1 h3 h4⟩
  have hLK : LK p l s m meth c G b := ⟨hx, hb, hr, hlocks, hF, hNc, rfl, hst⟩
  obtain ⟨M', X', hev⟩ := hgo
  obtain ⟨n, hn⟩ := run_ev hev
  have hrun := hn n (Nat.le_refl _)
  have hB : X'.2.2.2.1 ≤ 601024 ∧ X'.2.2.2.2.1 ≤ 7293034 := (run_P n _ hrun).2.2.1 rfl ⟨Nat.zero_le _, Nat.zero_le _⟩
  have hok : ∀ v ∈ [pR 17 0], okV 0 v ∧ gv v := fun v hv => by
    obtain rfl := List.mem_singleton.mp hv
    have hr : okR 0 17 0 := ⟨fun h => absurd h (by decide), fun _ => rfl, fun h => absurd h (by decide), by decide⟩
    exact ⟨fun _ => hr, fun h => by cases h⟩
  obtain ⟨ls, he, hlr⟩ := entry_lr (G := G) (n := 8) (na := 0) (as := [pR 17 0]) hur hok (by decide) m
  have he : entryFrame m ([Value.ref b] : List Value).toArray 8 = F0 m 0 ls [] := he
  rw [he]
  have hHR : HR G (M00 xs) (0, 0, 0, 0, 0, L) s.heap := ⟨fun k q hk => (by cases hk), fun _ => rfl, Nat.le_refl _, fun j _ => (by show (if 900 = 900 then xs j else 0) = xs j; rw [if_pos rfl]), fun a k ha => absurd ha (Nat.not_lt_zero _), rfl⟩
  have fi : FI G s s.heap [] false 8 (M00 xs) (0, 0, 0, 0, 0, L) ls (padl 8 (expd [pR 17 0])) [] := ⟨hHR, fun h => (by cases h), va_S.rf, hlr, fun i => by rw [nth_padl]; exact okV_expd _ i fun v hv => (hok v hv).1, fun v hv => (by cases hv), hur⟩
  have h9 := lw_false (e := e) (below := below) (M9 := M') (X9 := X') hLK hB n 0 _ [] (M00 xs) (0, 0, 0, 0, 0, L) s.heap [] ls rfl hrun fi
  exact h9
end SIA
