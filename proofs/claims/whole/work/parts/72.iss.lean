/-! alike is kept by turns and by the tick; what comes again -/
section ISE2
set_option maxRecDepth 100000
variable {u s p v l g n : Nat} {j k q e w c T T' tu tv nx off sh i z y N t x : Int} {A B C A' B' : AT} {M M' M0 : Mem} {X : PX} {f : Nat} {L : Bool}
theorem nea_TW (h : TW A B T T') : ∀ (m : Nat) (x : Int), 0 ≤ x → x < A 0 0 → neaA A x m = neaA B x m
  | 0, _, _, _ => rfl
  | m + 1, x, h1, h2 => by
    have n0 : B 0 0 = A 0 0 := h.1.1.1
    have hp : 0 ≤ prv (A 0 0) x ∧ prv (A 0 0) x < A 0 0 := by unfold prv; split <;> omega
    obtain ⟨w1, w2, w3⟩ := h.2.1.1 _ hp.1 hp.2
    unfold neaA
    rw [n0, ← w1, ← w3, nea_TW h m _ hp.1 hp.2]
theorem h90_TW (h : TW A B T T') (h1 : 0 ≤ j) (h2 : j < A 0 3) : A 90 j = B 90 j := by
  have n0 : B 0 0 = A 0 0 := h.1.1.1
  have n3 : B 0 3 = A 0 3 := h.1.1.2.2.2.1
  have g := h.2.2.1.1
  rw [h.2.2.2.2.1 j h1 h2, h.2.2.2.2.2 j h1 (by omega), n0]
  refine cnI_c fun y a b => ?_
  rw [(h.2.1.1 y a (by omega)).2.2]
theorem gap_TW (h : TW A B T T') (h1 : 0 ≤ j) (h2 : j < A 0 3) : gapA A j = gapA B j := by
  have e40 : B 40 = A 40 := by obtain ⟨-, -, -, -, -, -, -, -, -, -, e, -⟩ := h.1.1; exact e
  have e42 : B 42 = A 42 := h.1.2.1 42 (by omega)
  obtain ⟨d1, d2, -⟩ := h.2.2.1.2.2.2.1 j h1 h2
  unfold gapA nearA
  rw [← h90_TW h h1 h2, ← (h.2.1.2.2.2.1 j h1 h2).2.1, e40, e42, nea_TW h _ _ d1 d2]
theorem evS_c {pv pv' : Int → Int32} : ∀ (cs : List Int) (st : List Int32), (∀ c, c ∈ cs → -8 ≤ c → c < 0 → pv (-1 - c) = pv' (-1 - c)) → evS pv cs st = evS pv' cs st
  | [], _, _ => rfl
  | c :: cs, st, h => by
    have e : stp1 pv c st = stp1 pv' c st := by
      unfold stp1
      by_cases c1 : 0 ≤ c
      · rw [if_pos c1, if_pos c1]
      · by_cases c2 : -8 ≤ c
        · rw [if_neg c1, if_neg c1, if_pos c2, if_pos c2, h c (List.mem_cons_self ..) c2 (by omega)]
        · rw [if_neg c1, if_neg c1, if_neg c2, if_neg c2]
    have e2 : evS pv cs = evS pv' cs := funext fun st => evS_c cs st fun y hy => h y (List.mem_cons_of_mem _ hy)
    unfold evS
    rw [e, e2]
theorem smI_c {F G : Int → Int} : ∀ (n : Nat), (∀ y : Int, 0 ≤ y → y < n → F y = G y) → smI F n = smI G n
  | 0, _ => rfl
  | n + 1, h => by
    unfold smI
    rw [smI_c n fun y a b => h y a (by omega), h n (by omega) (by omega)]
theorem use_no (h : useA A c = false) (hk : 0 ≤ k ∧ k < A 81 0) : A 80 k ≠ -1 - c := fun e => by
  have h9 : useA A c = true := by
    unfold useA
    rw [List.any_eq_true]
    refine ⟨k.toNat, List.mem_range'_1.mpr ⟨by omega, by omega⟩, ?_⟩
    rw [show ((k.toNat : Nat) : Int) = k by omega]
    exact decide_eq_true e
  rw [h] at h9
  exact absurd h9 (by decide)
theorem rk_TW (h : TW A B T T') (h1 : 0 ≤ j) (h2 : j < A 0 3) : rkA A j = rkA B j := by
  obtain ⟨c1, c2, c3⟩ := h.2.1.2.2.2.1 j h1 h2
  have h9 := h.1.1
  obtain ⟨-, -, -, -, -, n9, -, e27, -, -, -, -, -, -, -, e80, e81⟩ := h9
  unfold rkA
  rw [n9, c1]
  have ec : codeL B = codeL A := by unfold codeL; rw [e80, e81]
  have e41 : B 41 = A 41 := h.1.2.1 41 (by omega)
  have e43 : B 43 = A 43 := h.1.2.1 43 (by omega)
  have e90 := h90_TW h h1 h2
  have eu : urgA A j = urgA B j := by
    unfold urgA
    rw [e27, ← c2]
    refine smI_c _ fun y a b => ?_
    rw [c3 y a (by omega)]
  rw [ec, evS_c (pv := pvA A j) (pv' := pvA B j) (codeL A) [] fun c hc b1 b2 => ?_]
  by_cases hc5 : c = -6
  · subst hc5
    have hu : useA A 5 = true := by
      cases hb : useA A 5 with
      | true => rfl
      | false =>
        unfold codeL at hc
        obtain ⟨k, k1, k2⟩ := List.mem_map.mp hc
        have := (List.mem_range'_1.mp k1).2
        exact absurd k2 (use_no hb (k := k) (by omega))
    have hl := h.2.1.2.2.2.2 hu j h1 h2
    show ii (lateA A j) = ii (lateA B j)
    unfold lateA
    rw [← c2]
    split
    · next h4 =>
      have := hl 0 (Int.le_refl _) h4
      rw [Int.add_zero] at this
      rw [this]
    · rfl
  · unfold pvA
    rw [e43, ← c2, e41, ← e90, ← eu, c1, if_neg (show ¬ -1 - c = 5 by omega), if_neg (show ¬ -1 - c = 5 by omega)]
theorem scan_TW (h : TW A B T T') : ∀ n : Nat, (n : Int) ≤ A 0 3 → scanA A n = scanA B n
  | 0, _ => rfl
  | n + 1, hn => by
    unfold scanA
    rw [scan_TW h n (by omega), gap_TW h (by omega) (by omega), rk_TW h (by omega) (by omega)]
theorem shr_TW (h : TW A B T T') : ∀ n : Nat, (n : Int) ≤ A 0 3 → shrA A n = shrA B n
  | 0, _ => rfl
  | n + 1, hn => by
    have e43 : B 43 = A 43 := h.1.2.1 43 (by omega)
    unfold shrA
    rw [shr_TW h n (by omega), gap_TW h (by omega) (by omega), e43]
theorem turn_pay (h1 : 0 ≤ y) (h2 : y < A 0 3) : turnA A 45 y = A 45 y + (if askB A y then A 43 y else 0) - (if y = (scanA A (A 0 3).toNat).1 then shrA A (A 0 3).toNat else 0) := by
  unfold turnA payA
  have e0 : holdA A (gapA A (scanA A (A 0 3).toNat).1) (scanA A (A 0 3).toNat).1 0 3 = A 0 3 := by rw [holdA_f (by decide) (by decide)]
  rw [e0, if_pos ⟨rfl, h1, h2⟩, holdA_f (by decide) (by decide), holdA_f (by decide) (by decide)]
theorem turn_25 (y : Int) : turnA A 25 y = if y = gapA A (scanA A (A 0 3).toNat).1 then (scanA A (A 0 3).toNat).1 else A 25 y := by
  unfold turnA
  rw [payA_f (by decide), holdA_25]
theorem turn_TW (h : TW A B T T') (hc : (scanA A (A 0 3).toNat).1 ≠ -1) : TW (turnA A) (turnA B) T T' := by
  have hT := h
  obtain ⟨hq, hI, hi, hi', hh, hh'⟩ := h
  have g := hi.1
  have n3 : B 0 3 = A 0 3 := hq.1.2.2.2.1
  have e43 : B 43 = A 43 := hq.2.1 43 (by omega)
  have es : scanA B (B 0 3).toNat = scanA A (A 0 3).toNat := by rw [n3]; exact (scan_TW hT _ (by omega)).symm
  have esh : shrA B (B 0 3).toNat = shrA A (A 0 3).toNat := by rw [n3]; exact (shr_TW hT _ (by omega)).symm
  have hsc := scan_in (A := A) (A 0 3).toNat
  have eg : gapA B (scanA A (A 0 3).toNat).1 = gapA A (scanA A (A 0 3).toNat).1 := (gap_TW hT (by omega) (by omega)).symm
  obtain ⟨t1, t2⟩ := turn_INV hi hh hc
  obtain ⟨t3, t4⟩ := turn_INV hi' hh' (by rw [es]; exact hc)
  refine ⟨hq.of turn_SP turn_SP (fun f hf => turn_f (by omega) (by omega) (by omega)) (fun f hf => turn_f (by omega) (by omega) (by omega)) (fun j hj => turn_45 hj) (fun j hj => turn_45 hj), ?_, t1, t3, t2, t4⟩
  have ef : ∀ (A : AT) (l : List Nat), 25 ∉ l → 45 ∉ l → 90 ∉ l → EF l A (turnA A) := fun A l a b c => ⟨fun x hx => turn_f (mem_ne hx a) (mem_ne hx b) (mem_ne hx c), by rw [turn_f (by decide) (by decide) (by decide)]⟩
  obtain ⟨k1, k2, k3, k4, k5⟩ := hI
  refine ⟨fun y y1 y2 => ?_, C2_k k2 turn_SP (ef _ _ (by decide) (by decide) (by decide)) (ef _ _ (by decide) (by decide) (by decide)), C3_k k3 turn_SP turn_SP (ef _ _ (by decide) (by decide) (by decide)) (ef _ _ (by decide) (by decide) (by decide)), fun y y1 y2 => ?_, C5_k k5 turn_SP (ef _ _ (by decide) (by decide) (by decide)) (ef _ _ (by decide) (by decide) (by decide))⟩
  · rw [turn_SP.1] at y2
    obtain ⟨w1, w2, w3⟩ := k1 y y1 y2
    refine ⟨?_, ?_, ?_⟩
    · rw [turn_f (by decide) (by decide) (by decide), turn_f (by decide) (by decide) (by decide), w1]
    · rw [turn_f (by decide) (by decide) (by decide), turn_f (by decide) (by decide) (by decide), w2]
    · rw [turn_25, turn_25, es, eg, w3]
  · rw [turn_SP.2.2.2.1] at y2
    obtain ⟨w1, w2, w3⟩ := k4 y y1 y2
    refine ⟨?_, ?_, ?_⟩
    · have ea : askB B y = askB A y := by unfold askB; rw [gap_TW hT y1 y2]
      rw [turn_pay y1 y2, turn_pay y1 (by omega), es, esh, e43, ea, ← ii_sub, ← ii_sub, ← ii_add, ← ii_add, w1]
    · rw [turn_f (by decide) (by decide) (by decide), turn_f (by decide) (by decide) (by decide), w2]
    · rw [turn_f (by decide) (by decide) (by decide), turn_f (by decide) (by decide) (by decide), turn_f (by decide) (by decide) (by decide)]
      exact w3
theorem turs_TW : ∀ (m : Nat) (A B : AT), TW A B T T' → TW (tursA m A) (tursA m B) T T'
  | 0, _, _, h => h
  | m + 1, A, B, h => by
    have g := h.2.2.1.1
    have n3 : B 0 3 = A 0 3 := h.1.1.2.2.2.1
    have es : scanA B (B 0 3).toNat = scanA A (A 0 3).toNat := by rw [n3]; exact (scan_TW h _ (by omega)).symm
    unfold tursA
    rw [es]
    by_cases c : (scanA A (A 0 3).toNat).1 = -1
    · rw [if_pos c, if_pos c]; exact h
    · rw [if_neg c, if_neg c]; exact turs_TW m _ _ (turn_TW h c)
theorem allTurns_TW (h : TW A B T T') : TW (allTurnsA A) (allTurnsA B) T T' := by
  have n0 : B 0 0 = A 0 0 := h.1.1.1
  unfold allTurnsA
  rw [n0]
  exact turs_TW _ _ _ h
theorem mod_next {x P : Int} (hP : 0 < P) : (x + 1) % P = if x % P + 1 = P then 0 else x % P + 1 := by
  have h1 := Int.emod_add_mul_ediv x P
  have h2 := Int.emod_nonneg x (by omega : P ≠ 0)
  have h3 := Int.emod_lt_of_pos x hP
  have h4 : (x + 1) % P = (x % P + 1) % P := by
    rw [show x + 1 = (x % P + 1) + P * (x / P) by omega, Int.add_mul_emod_self_left]
  rw [h4]
  by_cases c : x % P + 1 = P
  · rw [if_pos c, c, Int.emod_self]
  · rw [if_neg c, Int.emod_eq_of_lt (by omega) (by omega)]
theorem due_next (hP : 1 ≤ A 52 c) (v : Int) (hv : v = A 0 5 + 1) : dueA (upA A 0 5 v) c = if dueA A c = 0 then A 52 c - 1 else dueA A c - 1 := by
  unfold dueA
  rw [upA_f (f := 0) (g := 53) (by decide), upA_f (f := 0) (g := 52) (by decide), upA_e, hv, show A 0 5 + 1 - A 53 c = A 0 5 - A 53 c + 1 by omega, mod_next (by omega)]
  have h2 := Int.emod_nonneg (A 0 5 - A 53 c) (by omega : A 52 c ≠ 0)
  have h3 := Int.emod_lt_of_pos (A 0 5 - A 53 c) (show 0 < A 52 c by omega)
  rcases Int.lt_or_le (A 0 5) (A 53 c) with h | h
  · rw [if_neg (show ¬ A 53 c < A 0 5 + 1 by omega), if_neg (show ¬ A 53 c < A 0 5 by omega), if_neg (show ¬ A 53 c - A 0 5 = 0 by omega)]
    omega
  · rw [if_pos (show A 53 c < A 0 5 + 1 by omega)]
    rcases Int.lt_or_le (A 53 c) (A 0 5) with h5 | h5
    · rw [if_pos h5]
      generalize (A 0 5 - A 53 c) % A 52 c = r at *
      by_cases c1 : r = 0
      · rw [if_pos c1, if_pos rfl]
        by_cases c2 : r + 1 = A 52 c
        · rw [if_pos c2, if_pos rfl]; omega
        · rw [if_neg c2, if_neg (by omega)]; omega
      · rw [if_neg c1, if_neg (show ¬ A 52 c - r = 0 by omega)]
        by_cases c2 : r + 1 = A 52 c
        · rw [if_pos c2, if_pos rfl]; omega
        · rw [if_neg c2, if_neg (by omega)]; omega
    · have e : A 0 5 - A 53 c = 0 := by omega
      rw [if_neg (show ¬ A 53 c < A 0 5 by omega), if_pos (show A 53 c - A 0 5 = 0 by omega), e, Int.zero_emod]
      by_cases c2 : 0 + 1 = A 52 c
      · rw [if_pos c2, if_pos rfl]; omega
      · rw [if_neg c2, if_neg (by omega)]; omega
theorem tick_TW (h : TW A B T T') : TW (upA A 0 5 (A 0 5 + 1)) (upA B 0 5 (B 0 5 + 1)) (T + 1) (T' + 1) := by
  obtain ⟨hq, hI, hi, hi', hh, hh'⟩ := h
  have hl : ∀ A : AT, HLD A → HLD (upA A 0 5 (A 0 5 + 1)) := fun A hh => hh.mv (upA_d (by decide)) (upA_d (by decide)) (upA_f (by decide)) (upA_f (by decide))
  refine ⟨hq.of tick_SP tick_SP (fun f hf => upA_f (by omega)) (fun f hf => upA_f (by omega)) (fun j _ => by rw [upA_f (by decide)]) (fun j _ => by rw [upA_f (by decide)]), ?_, tick_INV hi, tick_INV hi', hl _ hh, hl _ hh'⟩
  have hsA : SP A (upA A 0 5 (A 0 5 + 1)) := tick_SP
  obtain ⟨k1, k2, k3, k4, k5⟩ := hI
  have e52 : B 52 = A 52 := by obtain ⟨-, -, -, -, -, -, -, -, -, -, -, -, -, e, -⟩ := hq.1; exact e
  have n4 : B 0 4 = A 0 4 := hq.1.2.2.2.2.1
  refine ⟨fun y y1 y2 => ?_, fun y y1 y2 => ?_, fun y y1 y2 => ?_, fun y y1 y2 => ?_, fun hu y y1 y2 k z1 z2 => ?_⟩
  · rw [hsA.1] at y2
    unfold rgE
    simp (disch := omega) only [upA_f]
    exact k1 y y1 y2
  · rw [hsA.2.1] at y2
    obtain ⟨w1, w2⟩ := k2 y y1 y2
    refine ⟨by rw [upA_f (by decide), upA_f (by decide)]; exact w1, ?_⟩
    unfold mayA at w2 ⊢
    rw [upA_f (f := 0) (g := 35) (by decide), upA_f (f := 0) (g := 35) (by decide), upA_e, upA_e]
    split at w2 <;> split at w2 <;> split <;> split <;> omega
  · rw [hsA.2.2.2.2.1] at y2
    obtain ⟨b1, b2, b3, b4, b5, b6, b7, b8⟩ := hi.2.2.2.2.2.1 y y1 y2
    rw [due_next b5 _ rfl, due_next (by rw [e52]; exact b5) _ rfl, e52, k3 y y1 y2]
  · rw [hsA.2.2.2.1] at y2
    unfold isdE quE
    simp (disch := omega) only [upA_f]
    exact k4 y y1 y2
  · rw [hsA.2.2.2.1] at y2
    rw [use_SP hsA] at hu
    rw [upA_f (by decide)] at z2
    have := k5 hu y y1 y2 k z1 z2
    rw [upA_e, upA_e, upA_f (by decide), upA_f (by decide)]
    omega
theorem dec_TW (h : TW A B T T') (h1 : 0 ≤ e) (h2 : e < A 0 1) : TW (decA A e) (decA B e) T T' := by
  obtain ⟨hq, hI, hi, hi', hh, hh'⟩ := h
  have n1 : B 0 1 = A 0 1 := hq.1.2.1
  have df : ∀ (A : AT) (f : Nat), f ≠ 32 → decA A e f = A f := fun A f hf => by unfold decA; exact upA_f hf
  have hl : ∀ A : AT, HLD A → HLD (decA A e) := fun A hh => hh.mv (by rw [df _ _ (by decide)]) (by rw [df _ _ (by decide)]) (df _ _ (by decide)) (df _ _ (by decide))
  refine ⟨hq.of dec_SP dec_SP (fun f hf => df _ _ (by omega)) (fun f hf => df _ _ (by omega)) (fun j _ => by rw [df _ _ (by decide)]) (fun j _ => by rw [df _ _ (by decide)]), ?_, dec_INV hi h1 h2, dec_INV hi' h1 (by omega), hl _ hh, hl _ hh'⟩
  have ef : ∀ (A : AT) (l : List Nat), 32 ∉ l → EF l A (decA A e) := fun A l a => ⟨fun x hx => df _ _ (mem_ne hx a), by rw [df _ _ (by decide)]⟩
  obtain ⟨k1, k2, k3, k4, k5⟩ := hI
  refine ⟨C1_k k1 dec_SP (ef _ _ (by decide)) (ef _ _ (by decide)), fun y y1 y2 => ?_, C3_k k3 dec_SP dec_SP (ef _ _ (by decide)) (ef _ _ (by decide)), C4_k k4 dec_SP (ef _ _ (by decide)) (ef _ _ (by decide)), C5_k k5 dec_SP (ef _ _ (by decide)) (ef _ _ (by decide))⟩
  rw [dec_SP.2.1] at y2
  obtain ⟨w1, w2⟩ := k2 y y1 y2
  obtain ⟨x1, x2⟩ := k2 e h1 h2
  refine ⟨?_, ?_⟩
  · unfold decA dec1
    rw [upA_s, upA_s, x1, w1]
  · unfold mayA at w2 ⊢
    rw [df _ _ (by decide), df _ _ (by decide), df _ _ (by decide), df _ _ (by decide)]
    exact w2
theorem decs_TW : ∀ (n : Nat) (e : Int) (A B : AT), e + n = A 0 1 → 0 ≤ e → TW A B T T' → TW (decsA n e A) (decsA n e B) T T'
  | 0, _, _, _, _, _, h => h
  | n + 1, e, A, B, h1, h2, h => decs_TW n (e + 1) _ _ (by rw [dec_SP.2.1]; omega) (by omega) (dec_TW h h2 (by omega))
theorem step_TW (h : TW A B T T') : TW (stepA off A) (stepA off B) (T + 1) (T' + 1) := by
  have g := h.2.2.1.1
  have n0 : B 0 0 = A 0 0 := h.1.1.1
  have n1 : B 0 1 = A 0 1 := h.1.1.2.1
  have t1 : TW (allComeA off A) (allComeA off B) T T' := allCome_TW h
  have t2 := adv_TW t1
  have s1 : SP A (allComeA off A) := comes_SP _ _ _
  have s2 : SP B (allComeA off B) := comes_SP _ _ _
  rw [s1.1, s2.1] at t2
  have t3 : TW (midA off A) (midA off B) T T' := allTurns_TW (allSides_TW (allExits_TW t2))
  have t4 := tick_TW t3
  have e1 : midA off A 0 1 = A 0 1 := mid_SP.2.1
  rw [step_mid, step_mid, n1]
  exact decs_TW _ _ _ _ (by rw [upA_d (by decide), e1]; omega) (by omega) t4
theorem run_TW : ∀ (n : Nat) (A B : AT) (T T' : Int), TW A B T T' → TW (runA off n A) (runA off n B) (T + n) (T' + n)
  | 0, A, B, T, T', h => by rw [show T + ((0 : Nat) : Int) = T by omega, show T' + ((0 : Nat) : Int) = T' by omega]; exact h
  | n + 1, A, B, T, T', h => by
    rw [show T + ((n + 1 : Nat) : Int) = T + 1 + n by omega, show T' + ((n + 1 : Nat) : Int) = T' + 1 + n by omega]
    exact run_TW n _ _ _ _ (step_TW h)
/-! the class's way to what comes again -/
section AG
variable (A : AT)
theorem rl_up (hi : INV A T) (hh : HLD A) {a b : Nat} (n : Nat) (h : ISE (runA (-1) a A) (runA (-1) b A)) : ISE (runA (-1) (a + n) A) (runA (-1) (b + n) A) := by
  have i1 := run_INV (off := -1) a A T hi hh
  have i2 := run_INV (off := -1) b A T hi hh
  rw [run_add, run_add]
  exact (run_TW (off := -1) n _ _ _ _ ⟨run_SQ a b, h, i1.1, i2.1, i1.2, i2.2⟩).2.1
theorem rl_tr {a b c : Nat} (h : ISE (runA (-1) a A) (runA (-1) b A)) (h' : ISE (runA (-1) b A) (runA (-1) c A)) : ISE (runA (-1) a A) (runA (-1) c A) := h.tr (run_SQ a b).1 h'
theorem rl_sy {a b : Nat} (h : ISE (runA (-1) a A) (runA (-1) b A)) : ISE (runA (-1) b A) (runA (-1) a A) := h.sy (run_SQ a b).1
theorem rl_mul (hi : INV A T) (hh : HLD A) {a d : Nat} (h : alk A a d) : ∀ m : Nat, ISE (runA (-1) a A) (runA (-1) (a + m * d) A)
  | 0 => by rw [Nat.zero_mul]; exact ISE.rf
  | m + 1 => by
    have h1 := rl_up A hi hh d (rl_mul hi hh h m)
    rw [show a + (m + 1) * d = a + m * d + d by rw [Nat.add_mul]; omega]
    exact rl_tr A h h1
/-- what is alike at last by p and at a by b is alike at a by p -/
theorem rl_less (hi : INV A T) (hh : HLD A) {a b p : Nat} (hb : 1 ≤ b) (h : alk A a b) (hp : ISE (runA (-1) 500 A) (runA (-1) (500 + p) A)) : alk A a p := by
  have h1 := rl_mul A hi hh h 500
  have h2 : 500 ≤ a + 500 * b := by omega
  obtain ⟨n, hn⟩ : ∃ n, a + 500 * b = 500 + n := ⟨a + 500 * b - 500, by omega⟩
  have h3 := rl_up A hi hh n hp
  rw [show 500 + p + n = a + 500 * b + p by omega, ← hn] at h3
  have h4 := rl_up A hi hh p h1
  exact rl_tr A (rl_tr A h1 h3) (rl_sy A h4)
theorem agr_of (hi : INV A T) (hh : HLD A) {p : Nat} (h1 : 1 ≤ p) (h2 : p ≤ 500) (h3 : ∀ d : Nat, 1 ≤ d → d < p → ¬ ISE (runA (-1) 500 A) (runA (-1) (500 + d) A)) (h4 : p < 500 → ISE (runA (-1) 500 A) (runA (-1) (500 + p) A)) :
    (∀ t : Nat, t + p ≤ 500 → alk A t p → (∀ t' : Nat, t' < t → ¬ alk A t' p) → AGr A t p) ∧ ((∀ t : Nat, t + p ≤ 500 → ¬ alk A t p) → AGr A (-1) (-1)) := by
  have key : ∀ a b : Nat, 1 ≤ b → a + b ≤ 500 → alk A a b → p ≤ b ∧ alk A a p := fun a b b1 b2 b3 => by
    have h5 : ISE (runA (-1) 500 A) (runA (-1) (500 + b) A) := by
      have := rl_up A hi hh (500 - a) b3
      rw [show a + (500 - a) = 500 by omega, show a + b + (500 - a) = 500 + b by omega] at this
      exact this
    have h6 : p ≤ b := by
      rcases Nat.lt_or_ge b p with h | h
      · exact absurd h5 (h3 b b1 h)
      · exact h
    refine ⟨h6, ?_⟩
    rcases Nat.eq_or_lt_of_le h6 with h | h
    · rw [h]; exact b3
    · exact rl_less A hi hh b1 b3 (h4 (by omega))
  refine ⟨fun t t1 t2 t3 => Or.inr ⟨t, p, rfl, rfl, h1, t1, t2, fun a b b1 b2 b3 b4 => ?_⟩, fun h => Or.inl ⟨rfl, rfl, fun a b b1 b2 b3 => ?_⟩⟩
  · obtain ⟨k1, k2⟩ := key a b b1 b2 b4
    rcases b3 with b3 | b3
    · exact t3 a b3 k2
    · omega
  · obtain ⟨k1, k2⟩ := key a b b1 b2 b3
    exact h a (by omega) k2
theorem AGr_one {t d t' d' : Int} (h : AGr A t d) (h' : AGr A t' d') : t = t' ∧ d = d' := by
  rcases h with ⟨h1, h2, h3⟩ | ⟨a, b, h1, h2, h3, h4, h5, h6⟩
  · rcases h' with ⟨g1, g2, g3⟩ | ⟨a', b', g1, g2, g3, g4, g5, g6⟩
    · exact ⟨h1.trans g1.symm, h2.trans g2.symm⟩
    · exact absurd g5 (h3 a' b' g3 g4)
  · rcases h' with ⟨g1, g2, g3⟩ | ⟨a', b', g1, g2, g3, g4, g5, g6⟩
    · exact absurd h5 (g3 a b h3 h4)
    · have n1 : ¬ (a' < a ∨ a' = a ∧ b' < b) := fun z => h6 a' b' g3 g4 z g5
      have n2 : ¬ (a < a' ∨ a = a' ∧ b < b') := fun z => g6 a b h3 h4 z h5
      have e1 : a = a' := by omega
      have e2 : b = b' := by omega
      rw [h1, h2, g1, g2, e1, e2]
      exact ⟨rfl, rfl⟩
end AG
end ISE2
