/-! acts are kept and undone, on both sides -/
section ACT
set_option maxRecDepth 100000
variable {u p v l g : Nat} {j q e w c T T' tu tv nx off sh i z y N t x : Int} {A B C I I' A' B' : AT} {M M' M0 : Mem} {X : PX} {L : Bool} {n s : Nat} {Q Q' : Nat → AT} {k : Bool} {D : Nat → Int} {f : Int}
theorem ln134 : ln 134 = 10 := by decide +kernel
theorem ln824 : ln 824 = 14340 := by decide +kernel
theorem ln823 : ln 823 = 1434 := by decide +kernel
theorem kp_in (h : n ≤ 10) : 1 ≤ kpN n ∧ kpN n ≤ 10 := by unfold kpN; split <;> omega
/-- an act is kept: the class -/
theorem S235 (hs : STv M 83 A) (hi : INV A T) (ho : M 83 17 = ii (-1)) (h : AC M n Q) : ∃ M', ev true 235 0 0 [pR 7 133, pR 6 83] [] M X = some (.inl none, M', X) ∧ AC M' (kpN n) (kpQ n Q A) ∧ ∀ b, b < 133 ∨ 635 ≤ b → M' b = M b := by
  obtain ⟨nx, a1, a2, a3, a4, a5⟩ := h
  obtain ⟨M1, b1, b2, b3, b4⟩ := S209v (X := X) hs hi (stlA a1) stl83 (by omega)
  have e1 : M1 133 1 = ii nx := by rw [b4 133 (by omega)]; exact a3
  have e2 : M1 133 2 = ii n := by rw [b4 133 (by omega)]; exact a4
  obtain ⟨ny, c1, c2⟩ : ∃ ny : Nat, (if (nx : Int) + 1 < 10 then ev true 235 0 67 [pR 7 133, pR 6 83] [pI (ii ((nx : Int) + 1)), pR 7 133] M1 X else ev true 235 0 67 [pR 7 133, pR 6 83] [pI (ii 0), pR 7 133] M1 X) = ev true 235 0 67 [pR 7 133, pR 6 83] [pI (ii ny), pR 7 133] M1 X ∧ ((nx + 1 < 10 ∧ ny = nx + 1) ∨ (nx = 9 ∧ ny = 0)) := by
    by_cases hc : nx + 1 < 10
    · exact ⟨nx + 1, by rw [if_pos (by omega)]; rfl, Or.inl ⟨hc, rfl⟩⟩
    · exact ⟨0, by rw [if_neg (by omega)]; rfl, Or.inr ⟨by omega, rfl⟩⟩
  have e3 : (if (10 : Int) < (n : Int) + 1 then ii 10 else ii ((n : Int) + 1)) = ii (kpN n) := by
    unfold kpN
    by_cases hc : n = 10
    · rw [if_pos (by omega), if_pos hc]; rfl
    · rw [if_neg (by omega), if_neg hc]; rfl
  refine ⟨upM (upM M1 133 1 (ii ny)) 133 2 (ii (kpN n)), ?_, ⟨ny, by omega, (kp_in a2).2, by rw [up_d (by decide), up_s, if_pos rfl], by rw [up_s, if_pos rfl], fun i hi => ?_⟩, fun b hb => ?_⟩
  · rw [q235_0, a3, i_0, ltF (by omega), ln134, ii_of, ltT (by omega), inbT (by omega), inbT (by omega), ii_nat (by omega) (by omega), show (nx : Int).toNat = nx from rfl, b1, kb0, q235_45, e1, i_1, i_10, ii_add, ilt (by omega), i_0, c1, q235_67, up_d (by decide), e2, i_1, i_10, ii_add, ilt (by omega), e3, q235_82]
  · have key : ∀ j B, j < 10 → STv M1 (135 + 50 * j) B → M1 (135 + 50 * j) 17 = ii (-1) → STv (upM (upM M1 133 1 (ii ny)) 133 2 (ii (kpN n))) (135 + 50 * j) B ∧ upM (upM M1 133 1 (ii ny)) 133 2 (ii (kpN n)) (135 + 50 * j) 17 = ii (-1) := fun j B hj k1 k2 => ⟨STv_k k1 (fun b d1 d2 => by funext y; rw [up_n (by omega), up_n (by omega)]) rfl, by rw [up_n (by omega), up_n (by omega)]; exact k2⟩
    unfold kpQ
    by_cases h9 : i + 1 = kpN n
    · have es : slt ny (kpN n) i = 135 + 50 * nx := by
        have := kp_in a2
        unfold slt
        omega
      rw [if_pos h9, es]
      exact key nx A a1 b2 (b3.trans ho)
    · rw [if_neg h9]
      have old : ∀ i', i' < n → slt ny (kpN n) i = slt nx n i' → (nx + 10 - n + i') % 10 ≠ nx → STv (upM (upM M1 133 1 (ii ny)) 133 2 (ii (kpN n))) (slt ny (kpN n) i) (Q i') ∧ upM (upM M1 133 1 (ii ny)) 133 2 (ii (kpN n)) (slt ny (kpN n) i) 17 = ii (-1) := fun i' h1 h2 h3 => by
        obtain ⟨d1, d2⟩ := a5 i' h1
        rw [h2]
        refine key _ _ (by omega) (STv_k d1 (fun b g1 g2 => b4 b ?_) rfl) ?_
        · unfold slt at g1 g2; omega
        · rw [b4 _ (by omega)]; exact d2
      by_cases h10 : n = 10
      · rw [if_pos h10]
        have hk : kpN n = 10 := by unfold kpN; rw [if_pos h10]
        refine old (i + 1) (by omega) ?_ (by omega)
        unfold slt
        rw [hk]
        omega
      · rw [if_neg h10]
        have hk : kpN n = n + 1 := by unfold kpN; rw [if_neg h10]
        refine old i (by omega) ?_ (by omega)
        unfold slt
        rw [hk]
        omega
  · funext y
    rw [up_n (by omega), up_n (by omega)]
    exact congrFun (b4 b (by omega)) y
/-- the latest act is undone: the class -/
theorem S236 (hc : CS M A) (h : AC M n Q) (hn : 0 < n) (hi : INV (Q (n - 1)) T) (hq : SP A (Q (n - 1))) : ∃ M', ev true 236 0 0 [pR 7 133, pR 6 83, p0] [] M X = some (.inl (some (pI (ii ((n : Int) - 1)))), M', X) ∧ CS M' (Q (n - 1)) ∧ AC M' (n - 1) Q ∧ ∀ b, (b < 83 ∨ 133 ≤ b) → b ≠ 133 → M' b = M b := by
  obtain ⟨nx, a1, a2, a3, a4, a5⟩ := h
  obtain ⟨lt, c1, c2⟩ : ∃ lt : Nat, (if (0 : Int) < (nx : Int) then ev true 236 0 18 [pR 7 133, pR 6 83, p0] [pI (ii ((nx : Int) - 1))] M X else ev true 236 0 18 [pR 7 133, pR 6 83, p0] [pI (ii 9)] M X) = ev true 236 0 18 [pR 7 133, pR 6 83, p0] [pI (ii lt)] M X ∧ ((1 ≤ nx ∧ lt = nx - 1) ∨ (nx = 0 ∧ lt = 9)) := by
    by_cases hx : 1 ≤ nx
    · exact ⟨nx - 1, by rw [if_pos (by omega), show (nx : Int) - 1 = ((nx - 1 : Nat) : Int) by omega], Or.inl ⟨hx, rfl⟩⟩
    · exact ⟨9, by rw [if_neg (by omega)]; rfl, Or.inr ⟨by omega, rfl⟩⟩
  have es : slt nx n (n - 1) = 135 + 50 * lt := by unfold slt; omega
  obtain ⟨d1, d2⟩ := a5 (n - 1) (by omega)
  rw [es] at d1 d2
  obtain ⟨M1, b1, b2, b3, b4⟩ := S209v (X := X) d1 hi stl83 (stlA (j := lt) (by omega)) (by omega)
  have e2 : M1 133 2 = ii n := by rw [b4 133 (by omega)]; exact a4
  have e1 : M1 133 1 = ii nx := by rw [b4 133 (by omega)]; exact a3
  refine ⟨upM (upM M1 133 1 (ii lt)) 133 2 (ii ((n : Int) - 1)), ?_, ⟨PLv_k hc.1 (fun b g1 g2 _ _ => ?_) hq, STv_k b2 (fun b g1 g2 => by funext y; rw [up_n (by omega), up_n (by omega)]) rfl, by rw [up_n (by decide), up_n (by decide), b3]; exact d2⟩, ⟨lt, by omega, by omega, by rw [up_d (by decide), up_s, if_pos rfl], by rw [up_s, if_pos rfl, show ((n - 1 : Nat) : Int) = (n : Int) - 1 by omega], fun i hi => ?_⟩, fun b g1 g2 => ?_⟩
  · rw [q236_0, a3, i_0, i_1, ii_sub, i_9, ilt (by omega), c1, q236_18, a4, i_0, eqF (by omega), ln134, ii_of, ltT (by omega), inbT (by omega), inbT (by omega), ii_nat (by omega) (by omega), show (lt : Int).toNat = lt from rfl, b1, kb0, q236_56, up_s, if_pos rfl, up_d (by decide), e2, i_1, ii_sub]
  · funext y
    rw [up_n (by omega), up_n (by omega)]
    exact congrFun (b4 b (by omega)) y
  · obtain ⟨k1, k2⟩ := a5 i (by omega)
    have e : slt lt (n - 1) i = slt nx n i := by unfold slt; omega
    have f : ∀ b, 135 ≤ b → upM (upM M1 133 1 (ii lt)) 133 2 (ii ((n : Int) - 1)) b = M b := fun b hb => by
      funext y
      rw [up_n (by omega), up_n (by omega)]
      exact congrFun (b4 b (by omega)) y
    rw [e]
    have hs : 135 ≤ slt nx n i := by unfold slt; omega
    exact ⟨STv_k k1 (fun b g1 g2 => f b (by omega)) rfl, by rw [f _ hs]; exact k2⟩
  · funext y
    rw [up_n (by omega), up_n (by omega)]
    exact congrFun (b4 b (by omega)) y
theorem S236n (h : AC M 0 Q) : ev true 236 0 0 [pR 7 133, pR 6 83, p0] [] M X = some (.inl (some (pI (ii (-1)))), M, X) := by
  obtain ⟨nx, a1, a2, a3, a4, a5⟩ := h
  rw [q236_0, a3, i_0, i_1, ii_sub, i_9, ilt (by omega)]
  split <;> rw [q236_18, a4, i_0, eqT (show ((0 : Nat) : Int) = 0 from rfl), q236_44, ii_m1]
theorem S9 (h : AC M n Q) : ∃ M', ev true 9 0 0 [pR 7 133] [] M X = some (.inl none, M', X) ∧ AC M' 0 Q ∧ ∀ b, b ≠ 133 → M' b = M b := by
  obtain ⟨nx, a1, a2, a3, a4, a5⟩ := h
  exact ⟨_, q9_0 _ _, ⟨nx, a1, by omega, by rw [up_d (by decide)]; exact a3, by rw [up_s, if_pos rfl]; rfl, fun i hi => by omega⟩, fun b hb => by funext y; exact up_n hb⟩
/-- an act is kept: the reference -/
theorem S35a : ∀ (m k : Nat) (M1 : Mem), k + m = 14340 → 1434 ≤ k → (∀ b, b ≠ 824 → M1 b = M b) → (∀ z, M1 824 z = if z + 1434 < k then M 824 (z + 1434) else M 824 z) → ∃ M2 z1, ev true 35 0 13 [pR 13 819, pI (ii k)] [] M1 X = ev true 35 0 52 [pR 13 819, z1] [] (upM M2 819 6 (M2 819 6 - ii 1)) X ∧ (∀ b, b ≠ 824 → M2 b = M b) ∧ ∀ z, M2 824 z = if z + 1434 < 14340 then M 824 (z + 1434) else M 824 z := by
  intro m
  induction m with
  | zero =>
    intro k M1 h1 h2 h3 h4
    have hk : k = 14340 := by omega
    subst hk
    exact ⟨M1, _, by rw [q35_13, i_14340, ltF (by omega), i_1], h3, h4⟩
  | succ m ih =>
    intro k M1 h1 h2 h3 h4
    obtain ⟨M2, z1, a1, a2, a3⟩ := ih (k + 1) (upM M1 824 (k - 1434) (M1 824 k)) (by omega) (by omega) (fun b hb => by rw [← h3 b hb]; funext y; exact up_n hb) (fun z => by
      rw [up_s, h4 k, if_neg (show ¬ k + 1434 < k by omega), h4 z]
      by_cases c : z = k - 1434
      · rw [if_pos c, if_pos (by omega), show z + 1434 = k by omega]
      · rw [if_neg c]
        by_cases d : z + 1434 < k
        · rw [if_pos d, if_pos (by omega)]
        · rw [if_neg d, if_neg (by omega)])
    refine ⟨M2, z1, ?_, a2, a3⟩
    rw [q35_13, i_14340, ltT (by omega), inbT (by rw [ln824]; omega), i_1434, ii_sub, inbT (by rw [ln824]; omega), ii_nat (by omega) (by omega), ii_nat (by omega) (by omega), i_1, ii_add, show ((k : Int) - 1434).toNat = k - 1434 by omega, show (k : Int).toNat = k from rfl]
    exact a1
theorem S35b {a : Nat} (ha : a < 10) : ∀ (m k : Nat) (M1 : Mem), k + m = 1434 → M 819 6 = ii a → (∀ b, b ≠ 824 → M1 b = M b) → (∀ z, M1 824 z = if 1434 * a ≤ z ∧ z < 1434 * a + k then M 820 (z - 1434 * a) else M 824 z) → ∃ M2, ev true 35 0 54 [pR 13 819, pI (ii k)] [] M1 X = some (.inl none, upM M2 819 6 (ii ((a : Int) + 1)), X) ∧ (∀ b, b ≠ 824 → M2 b = M b) ∧ ∀ z, M2 824 z = if 1434 * a ≤ z ∧ z < 1434 * a + 1434 then M 820 (z - 1434 * a) else M 824 z := by
  intro m
  induction m with
  | zero =>
    intro k M1 h1 h6 h3 h4
    have hk : k = 1434 := by omega
    subst hk
    exact ⟨M1, by rw [q35_54, i_1434, ltF (by omega), h3 819 (by decide), h6, i_1, ii_add], h3, h4⟩
  | succ m ih =>
    intro k M1 h1 h6 h3 h4
    have e6 : M1 819 6 = ii a := by rw [h3 819 (by decide)]; exact h6
    obtain ⟨M2, a1, a2, a3⟩ := ih (k + 1) (upM M1 824 (1434 * a + k) (M1 820 k)) (by omega) h6 (fun b hb => by rw [← h3 b hb]; funext y; exact up_n hb) (fun z => by
      rw [up_s, h3 820 (by decide), h4 z]
      by_cases c : z = 1434 * a + k
      · rw [if_pos c, if_pos (by omega), show z - 1434 * a = k by omega]
      · rw [if_neg c]
        by_cases d : 1434 * a ≤ z ∧ z < 1434 * a + k
        · rw [if_pos d, if_pos (by omega)]
        · rw [if_neg d, if_neg (by omega)])
    refine ⟨M2, ?_, a2, a3⟩
    rw [q35_54, i_1434, ltT (by omega), inR (by omega), e6, ii_mul, ii_add, inbT (by rw [ln824]; omega), ii_nat (by omega) (by omega), ii_nat (by omega) (by omega), i_1, ii_add, show (1434 * (a : Int) + (k : Int)).toNat = 1434 * a + k by omega, show (k : Int).toNat = k from rfl]
    exact a1
theorem S35 (h6 : M 819 6 = ii n) (hn : n ≤ 10) : ∃ M', ev true 35 0 0 [pR 13 819, p0] [] M X = some (.inl none, M', X) ∧ M' 819 6 = ii (kpN n) ∧ (∀ b, b ≠ 819 → b ≠ 824 → M' b = M b) ∧ (∀ j, j ≠ 6 → M' 819 j = M 819 j) ∧ ∀ i z, i < kpN n → z < 1434 → M' 824 (1434 * i + z) = if i + 1 = kpN n then M 820 z else M 824 (1434 * (if n = 10 then i + 1 else i) + z) := by
  unfold kpN
  by_cases hc : n = 10
  · subst hc
    obtain ⟨M1, z1, a1, a2, a3⟩ := S35a (M := M) (X := X) 12906 1434 M (by omega) (by omega) (fun _ _ => rfl) (fun z => by rw [if_neg (by omega)])
    have e6 : M1 819 6 - ii 1 = ii (9 : Nat) := by rw [a2 819 (by decide), h6, ii_sub]; rfl
    rw [e6] at a1
    obtain ⟨M2, b1, b2, b3⟩ := S35b (M := upM M1 819 6 (ii (9 : Nat))) (X := X) (a := 9) (by omega) 1434 0 _ (by omega) (by rw [up_s, if_pos rfl]) (fun _ _ => rfl) (fun z => by rw [if_neg (by omega)])
    refine ⟨upM M2 819 6 (ii ((9 : Nat) + 1 : Int)), ?_, ?_, fun b c1 c2 => ?_, fun j hj => ?_, fun i z hi hz => ?_⟩
    · have a1 : ev true 35 0 13 [pR 13 819, pI (ii 1434)] [] M X = _ := a1
      have b1 : ev true 35 0 54 [pR 13 819, pI (ii 0)] [] _ X = _ := b1
      rw [q35_0, h6, i_10, eqT (show ((10 : Nat) : Int) = 10 from rfl), i_1434, a1, q35_52, i_0, b1]
    · rw [up_s, if_pos rfl, if_pos rfl]; rfl
    · funext y
      rw [up_n c1, b2 b c2, up_n c1, a2 b c2]
    · rw [up_d hj, b2 819 (by decide), up_d hj, a2 819 (by decide)]
    · rw [if_pos rfl] at hi
      rw [up_n (by decide), b3, if_pos rfl, if_pos rfl]
      by_cases d : i = 9
      · subst d
        rw [if_pos (by omega), if_pos (by omega), up_n (by decide), a2 820 (by decide), show 1434 * 9 + z - 1434 * 9 = z by omega]
      · rw [if_neg (by omega), if_neg (by omega), up_n (by decide), a3, if_pos (by omega), show 1434 * i + z + 1434 = 1434 * (i + 1) + z by omega]
  · obtain ⟨M2, b1, b2, b3⟩ := S35b (M := M) (X := X) (a := n) (by omega) 1434 0 M (by omega) h6 (fun _ _ => rfl) (fun z => by rw [if_neg (by omega)])
    refine ⟨upM M2 819 6 (ii ((n : Int) + 1)), ?_, ?_, fun b c1 c2 => ?_, fun j hj => ?_, fun i z hi hz => ?_⟩
    · have b1 : ev true 35 0 54 [pR 13 819, pI (ii 0)] [] M X = _ := b1
      rw [q35_0, h6, i_10, eqF (by omega), q35_52, i_0, b1]
    · rw [up_s, if_pos rfl, if_neg hc]; rfl
    · funext y
      rw [up_n c1, b2 b c2]
    · rw [up_d hj, b2 819 (by decide)]
    · rw [if_neg hc] at hi
      rw [up_n (by decide), b3, if_neg hc, if_neg hc]
      by_cases d : i = n
      · subst d
        rw [if_pos (by omega), if_pos (by omega), show 1434 * i + z - 1434 * i = z by omega]
      · rw [if_neg (by omega), if_neg (by omega)]
theorem AR_kp (h : AR M n Q) (hr : RR M A) (hi : INV A T) (hq : ∀ i, i < n → INV (Q i) T) (h6 : M' 819 6 = ii (kpN n)) (h20 : M' 820 = M 820) (hf : ∀ i z, i < kpN n → z < 1434 → M' 824 (1434 * i + z) = if i + 1 = kpN n then M 820 z else M 824 (1434 * (if n = 10 then i + 1 else i) + z)) : AR M' (kpN n) (kpQ n Q A) := by
  refine ⟨h6, (kp_in h.2.1).2, fun i hi9 => ?_⟩
  have hk : ∀ z : Int, 0 ≤ z → z < 1434 → rr (vw M' 824 (1434 * i)) z = if i + 1 = kpN n then rr M z else rr (vw M 824 (1434 * (if n = 10 then i + 1 else i))) z := fun z z1 z2 => by
    rw [rr_vw z1, rr_vw z1, hf i z.toNat hi9 (by omega)]
    rfl
  unfold kpQ
  by_cases c : i + 1 = kpN n
  · rw [if_pos c]
    refine ⟨RR_c hr hi (fun z z1 z2 => by rw [hk z z1 z2, if_pos c]), fun z z1 z2 _ => ?_⟩
    rw [hk z z1 z2, if_pos c, rr_at h20]
  · rw [if_neg c]
    have hlt : (if n = 10 then i + 1 else i) < n := by
      unfold kpN at hi9 c
      split <;> rename_i h9
      · rw [if_pos h9] at hi9 c; omega
      · rw [if_neg h9] at hi9 c; omega
    obtain ⟨b1, b2⟩ := h.2.2 _ hlt
    have hQ : (if n = 10 then Q (i + 1) else Q i) = Q (if n = 10 then i + 1 else i) := by split <;> rfl
    rw [hQ]
    refine ⟨RR_c b1 (hq _ hlt) (fun z z1 z2 => by rw [hk z z1 z2, if_neg c]), fun z z1 z2 z3 => ?_⟩
    rw [hk z z1 z2, if_neg c, b2 z z1 z2 z3, rr_at h20]
/-- the latest act is undone: the reference -/
theorem S37a {a : Nat} (ha : a < 10) : ∀ (m k : Nat) (M1 : Mem), k + m = 1434 → M 819 6 = ii a → (∀ b, b ≠ 820 → M1 b = M b) → (∀ z, M1 820 z = if z < k then M 824 (1434 * a + z) else M 820 z) → ∃ M2, ev true 37 0 26 [pR 13 819, pI (ii k)] [] M1 X = some (.inl (some (pI (ii a))), M2, X) ∧ (∀ b, b ≠ 820 → M2 b = M b) ∧ ∀ z, M2 820 z = if z < 1434 then M 824 (1434 * a + z) else M 820 z := by
  intro m
  induction m with
  | zero =>
    intro k M1 h1 h6 h3 h4
    have hk : k = 1434 := by omega
    subst hk
    exact ⟨M1, by rw [q37_26, i_1434, ltF (by omega), h3 819 (by decide), h6], h3, h4⟩
  | succ m ih =>
    intro k M1 h1 h6 h3 h4
    have e6 : M1 819 6 = ii a := by rw [h3 819 (by decide)]; exact h6
    obtain ⟨M2, a1, a2, a3⟩ := ih (k + 1) (upM M1 820 k (M1 824 (1434 * a + k))) (by omega) h6 (fun b hb => by rw [← h3 b hb]; funext y; exact up_n hb) (fun z => by
      rw [up_s, h3 824 (by decide), h4 z]
      by_cases c : z = k
      · rw [if_pos c, if_pos (by omega), c]
      · rw [if_neg c]
        by_cases d : z < k
        · rw [if_pos d, if_pos (by omega)]
        · rw [if_neg d, if_neg (by omega)])
    refine ⟨M2, ?_, a2, a3⟩
    rw [q37_26, i_1434, ltT (by omega), e6, ii_mul, ii_add, inbT (by rw [ln824]; omega), inR (by omega), ii_nat (by omega) (by omega), ii_nat (by omega) (by omega), i_1, ii_add, show (1434 * (a : Int) + (k : Int)).toNat = 1434 * a + k by omega, show (k : Int).toNat = k from rfl]
    exact a1
theorem S37 (h6 : M 819 6 = ii n) (hn : n ≤ 10) (h0 : 0 < n) : ∃ M', ev true 37 0 0 [pR 13 819, p0] [] M X = some (.inl (some (pI (ii ((n : Int) - 1)))), M', X) ∧ M' 819 6 = ii ((n - 1 : Nat) : Int) ∧ (∀ b, b ≠ 819 → b ≠ 820 → M' b = M b) ∧ (∀ j, j ≠ 6 → j ≠ 7 → M' 819 j = M 819 j) ∧ M' 819 7 = ii 0 ∧ ∀ z, M' 820 z = if z < 1434 then M 824 (1434 * (n - 1) + z) else M 820 z := by
  have e6 : upM M 819 7 (ii 0) 819 6 = ii n := by rw [up_d (by decide)]; exact h6
  obtain ⟨M2, a1, a2, a3⟩ := S37a (M := upM (upM M 819 7 (ii 0)) 819 6 (ii ((n - 1 : Nat) : Int))) (X := X) (a := n - 1) (by omega) 1434 0 _ (by omega) (by rw [up_s, if_pos rfl]) (fun _ _ => rfl) (fun z => by rw [if_neg (by omega)])
  refine ⟨M2, ?_, by rw [a2 819 (by decide), up_s, if_pos rfl], fun b b1 b2 => ?_, fun j j1 j2 => ?_, by rw [a2 819 (by decide), up_d (by decide), up_s, if_pos rfl], fun z => ?_⟩
  · have a1 : ev true 37 0 26 [pR 13 819, pI (ii 0)] [] _ X = _ := a1
    rw [q37_0, i_0, e6, eqF (by omega), i_1, ii_sub, show (n : Int) - 1 = ((n - 1 : Nat) : Int) by omega, a1]
  · funext y
    rw [a2 b b2, up_n b1, up_n b1]
  · rw [a2 819 (by decide), up_d j1, up_d j2]
  · rw [a3 z, up_n (by decide), up_n (by decide), up_n (by decide), up_n (by decide)]
end ACT
