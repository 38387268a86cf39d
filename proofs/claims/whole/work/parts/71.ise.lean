/-! alike is kept by the stages of a tick -/
section ISE1
set_option maxRecDepth 100000
variable {u s p v l g n : Nat} {j k q e w c T T' tu tv nx off sh i z y N t : Int} {A B C A' B' : AT} {M M' M0 : Mem} {X : PX} {f : Nat} {L : Bool}
theorem ISE.rf : ISE A A := ⟨fun _ _ _ => ⟨rfl, rfl, rfl⟩, fun _ _ _ => ⟨rfl, rfl⟩, fun _ _ _ => rfl, fun _ _ _ => ⟨rfl, rfl, fun _ _ _ => rfl⟩, fun _ _ _ _ _ _ _ => rfl⟩
theorem ISE.sy (hs : SP A B) (h : ISE A B) : ISE B A := by
  obtain ⟨h1, h2, h3, h4, h5⟩ := h
  have n0 : B 0 0 = A 0 0 := hs.1
  have n1 : B 0 1 = A 0 1 := hs.2.1
  have n3 : B 0 3 = A 0 3 := hs.2.2.2.1
  have n4 : B 0 4 = A 0 4 := hs.2.2.2.2.1
  refine ⟨fun q a b => ?_, fun e a b => ?_, fun c a b => ?_, fun j a b => ?_, fun hu j a b k k1 k2 => ?_⟩
  · obtain ⟨x1, x2, x3⟩ := h1 q a (by omega)
    exact ⟨x1.symm, x2.symm, x3.symm⟩
  · obtain ⟨x1, x2⟩ := h2 e a (by omega)
    exact ⟨x1.symm, x2.symm⟩
  · exact (h3 c a (by omega)).symm
  · obtain ⟨x1, x2, x3⟩ := h4 j a (by omega)
    exact ⟨x1.symm, x2.symm, fun k k1 k2 => (x3 k k1 (by omega)).symm⟩
  · obtain ⟨x1, x2, x3⟩ := h4 j a (by omega)
    exact (h5 (by rw [← use_SP hs]; exact hu) j a (by omega) k k1 (by omega)).symm
theorem ISE.tr (hs : SP A B) (h : ISE A B) (h' : ISE B C) : ISE A C := by
  obtain ⟨h1, h2, h3, h4, h5⟩ := h
  obtain ⟨g1, g2, g3, g4, g5⟩ := h'
  have n0 : B 0 0 = A 0 0 := hs.1
  have n1 : B 0 1 = A 0 1 := hs.2.1
  have n3 : B 0 3 = A 0 3 := hs.2.2.2.1
  have n4 : B 0 4 = A 0 4 := hs.2.2.2.2.1
  refine ⟨fun q a b => ?_, fun e a b => ?_, fun c a b => ?_, fun j a b => ?_, fun hu j a b k k1 k2 => ?_⟩
  · obtain ⟨x1, x2, x3⟩ := h1 q a b
    obtain ⟨y1, y2, y3⟩ := g1 q a (by omega)
    exact ⟨x1.trans y1, x2.trans y2, x3.trans y3⟩
  · obtain ⟨x1, x2⟩ := h2 e a b
    obtain ⟨y1, y2⟩ := g2 e a (by omega)
    exact ⟨x1.trans y1, x2.trans y2⟩
  · exact (h3 c a b).trans (g3 c a (by omega))
  · obtain ⟨x1, x2, x3⟩ := h4 j a b
    obtain ⟨y1, y2, y3⟩ := g4 j a (by omega)
    exact ⟨x1.trans y1, x2.trans y2, fun k k1 k2 => (x3 k k1 k2).trans (y3 k k1 (by omega))⟩
  · obtain ⟨x1, x2, x3⟩ := h4 j a b
    exact (h5 hu j a b k k1 k2).trans (g5 (by rw [use_SP hs]; exact hu) j a (by omega) k k1 (by omega))
/-- what alike looks at is the same -/
def EF (l : List Nat) (A A' : AT) : Prop := (∀ f, f ∈ l → A' f = A f) ∧ A' 0 5 = A 0 5
theorem C1_k (h : ∀ q, 0 ≤ q → q < A 0 0 → rgE A B q) (hs : SP A A') (hA : EF [20, 21, 25] A A') (hB : EF [20, 21, 25] B B') : ∀ q, 0 ≤ q → q < A' 0 0 → rgE A' B' q := by
  unfold rgE
  rw [hs.1, hA.1 20 (by decide), hA.1 21 (by decide), hA.1 25 (by decide), hB.1 20 (by decide), hB.1 21 (by decide), hB.1 25 (by decide)]
  exact h
theorem C2_k (h : ∀ e, 0 ≤ e → e < A 0 1 → iexE A B e) (hs : SP A A') (hA : EF [32, 35] A A') (hB : EF [32, 35] B B') : ∀ e, 0 ≤ e → e < A' 0 1 → iexE A' B' e := by
  unfold iexE mayA
  rw [hs.2.1, hA.1 32 (by decide), hA.1 35 (by decide), hB.1 32 (by decide), hB.1 35 (by decide), hA.2, hB.2]
  exact h
theorem C3_k (h : ∀ c, 0 ≤ c → c < A 0 4 → dueA A c = dueA B c) (hs : SP A A') (hs' : SP B B') (hA : EF [] A A') (hB : EF [] B B') : ∀ c, 0 ≤ c → c < A' 0 4 → dueA A' c = dueA B' c := by
  obtain ⟨-, -, -, -, n4, -, -, -, -, -, -, -, -, e52, e53, -⟩ := hs
  obtain ⟨-, -, -, -, -, -, -, -, -, -, -, -, -, f52, f53, -⟩ := hs'
  unfold dueA
  rw [n4, e52, e53, f52, f53, hA.2, hB.2]
  exact h
theorem C4_k (h : ∀ j, 0 ≤ j → j < A 0 3 → isdE A B j) (hs : SP A A') (hA : EF [44, 45, 60] A A') (hB : EF [44, 45, 60] B B') : ∀ j, 0 ≤ j → j < A' 0 3 → isdE A' B' j := by
  unfold isdE quE
  rw [hs.2.2.2.1, hA.1 44 (by decide), hA.1 45 (by decide), hA.1 60 (by decide), hB.1 44 (by decide), hB.1 45 (by decide), hB.1 60 (by decide)]
  exact h
theorem C5_k (h : useA A 5 = true → ∀ j, 0 ≤ j → j < A 0 3 → wlE A B j) (hs : SP A A') (hA : EF [44, 61] A A') (hB : EF [44, 61] B B') : useA A' 5 = true → ∀ j, 0 ≤ j → j < A' 0 3 → wlE A' B' j := by
  unfold wlE
  rw [use_SP hs, hs.2.2.2.1, hA.1 44 (by decide), hA.1 61 (by decide), hB.1 61 (by decide), hA.2, hB.2]
  exact h
theorem SQ.of (h : SQ A B) (hs : SP A A') (hs' : SP B B') (k1 : ∀ f, f = 41 ∨ f = 42 ∨ f = 43 → A' f = A f) (k2 : ∀ f, f = 41 ∨ f = 42 ∨ f = 43 → B' f = B f) (k3 : ∀ j, A 0 3 ≤ j → A' 45 j = A 45 j) (k4 : ∀ j, B 0 3 ≤ j → B' 45 j = B 45 j) : SQ A' B' := by
  obtain ⟨sp, q1, q2⟩ := h
  refine ⟨?_, fun f hf => by rw [k1 f hf, k2 f hf, q1 f hf], fun j hj => ?_⟩
  · obtain ⟨a1, a2, a3, a4, a5, a6, a7, a8, a9, a10, a11, a12, a13, a14, a15, a16, a17⟩ := hs
    obtain ⟨b1, b2, b3, b4, b5, b6, b7, b8, b9, b10, b11, b12, b13, b14, b15, b16, b17⟩ := hs'
    obtain ⟨c1, c2, c3, c4, c5, c6, c7, c8, c9, c10, c11, c12, c13, c14, c15, c16, c17⟩ := sp
    exact ⟨(b1.trans c1).trans a1.symm, (b2.trans c2).trans a2.symm, (b3.trans c3).trans a3.symm, (b4.trans c4).trans a4.symm, (b5.trans c5).trans a5.symm, (b6.trans c6).trans a6.symm, (b7.trans c7).trans a7.symm, (b8.trans c8).trans a8.symm, (b9.trans c9).trans a9.symm, (b10.trans c10).trans a10.symm, (b11.trans c11).trans a11.symm, (b12.trans c12).trans a12.symm, (b13.trans c13).trans a13.symm, (b14.trans c14).trans a14.symm, (b15.trans c15).trans a15.symm, (b16.trans c16).trans a16.symm, (b17.trans c17).trans a17.symm⟩
  · rw [hs.2.2.2.1] at hj
    rw [k4 j (by rw [sp.2.2.2.1]; exact hj), k3 j hj, q2 j hj]
/-- two states alike, of one run -/
def TW (A B : AT) (T T' : Int) : Prop := SQ A B ∧ ISE A B ∧ INV A T ∧ INV B T' ∧ HLD A ∧ HLD B
theorem join_44 {w : Int} (y : Int) : joinA A j w 44 y = if y = j then A 44 j + 1 else A 44 y := by
  unfold joinA
  rw [upA_s]
  by_cases h : y = j
  · rw [if_pos h, if_pos h]
  · rw [if_neg h, if_neg h, upA_n (by decide), upA_n (by decide)]
theorem join_60 {w : Int} (y : Int) : joinA A j w 60 y = if y = 20 * j + A 44 j then w else A 60 y := by
  unfold joinA
  rw [upA_n (by decide), upA_n (by decide), upA_s]
theorem join_61 {w : Int} (y : Int) : joinA A j w 61 y = if y = 20 * j + A 44 j then A 0 5 else A 61 y := by
  unfold joinA
  rw [upA_n (by decide), upA_s]
  by_cases h : y = 20 * j + A 44 j
  · rw [if_pos h, if_pos h]
  · rw [if_neg h, if_neg h, upA_n (by decide)]
theorem join_ISE {w : Int} (hq : SQ A B) (h : ISE A B) (hi : INV A T) (hi' : INV B T') (h1 : 0 ≤ j) (h2 : j < A 0 3) (h3 : A 44 j < 20) (hsA : SP A (joinA A j w)) (hsB : SP B (joinA B j w)) : ISE (joinA A j w) (joinA B j w) := by
  have g := hi.1
  have n3 : B 0 3 = A 0 3 := hq.1.2.2.2.1
  have eA : ∀ l : List Nat, 44 ∉ l → 60 ∉ l → 61 ∉ l → EF l A (joinA A j w) := fun l a b c => ⟨fun f hf => joinA_f (mem_ne hf a) (mem_ne hf b) (mem_ne hf c), by rw [joinA_f (by decide) (by decide) (by decide)]⟩
  have eB : ∀ l : List Nat, 44 ∉ l → 60 ∉ l → 61 ∉ l → EF l B (joinA B j w) := fun l a b c => ⟨fun f hf => joinA_f (mem_ne hf a) (mem_ne hf b) (mem_ne hf c), by rw [joinA_f (by decide) (by decide) (by decide)]⟩
  obtain ⟨k1, k2, k3, k4, k5⟩ := h
  have b44 : ∀ y, 0 ≤ y → y < A 0 3 → 0 ≤ A 44 y ∧ A 44 y ≤ 20 := fun y y1 y2 => by
    obtain ⟨-, -, -, -, -, -, -, -, b9, b10, -⟩ := hi.2.2.2.1 y y1 y2
    exact ⟨b9, b10⟩
  have ej := (k4 j h1 h2).2.1
  refine ⟨C1_k k1 hsA (eA _ (by decide) (by decide) (by decide)) (eB _ (by decide) (by decide) (by decide)), C2_k k2 hsA (eA _ (by decide) (by decide) (by decide)) (eB _ (by decide) (by decide) (by decide)), C3_k k3 hsA hsB (eA _ (by decide) (by decide) (by decide)) (eB _ (by decide) (by decide) (by decide)), fun y y1 y2 => ?_, fun hu y y1 y2 k z1 z2 => ?_⟩
  · rw [hsA.2.2.2.1] at y2
    obtain ⟨x1, x2, x3⟩ := k4 y y1 y2
    have := b44 y y1 y2
    have := b44 j h1 h2
    refine ⟨by rw [joinA_f (by decide) (by decide) (by decide), joinA_f (by decide) (by decide) (by decide)]; exact x1, ?_, fun k z1 z2 => ?_⟩
    · rw [join_44, join_44, ej, x2]
    · rw [join_44] at z2
      rw [join_60, join_60, ← ej]
      by_cases hk : 20 * y + k = 20 * j + A 44 j
      · rw [if_pos hk, if_pos hk]
      · rw [if_neg hk, if_neg hk]
        refine x3 k z1 ?_
        split at z2
        · next h => subst h; omega
        · exact z2
  · rw [hsA.2.2.2.1] at y2
    rw [use_SP hsA] at hu
    obtain ⟨x1, x2, x3⟩ := k4 y y1 y2
    have := b44 y y1 y2
    have := b44 j h1 h2
    rw [join_44] at z2
    rw [join_61, join_61, ← ej, (eA [] (by decide) (by decide) (by decide)).2, (eB [] (by decide) (by decide) (by decide)).2]
    by_cases hk : 20 * y + k = 20 * j + A 44 j
    · rw [if_pos hk, if_pos hk]; omega
    · rw [if_neg hk, if_neg hk]
      refine k5 hu y y1 y2 k z1 ?_
      split at z2
      · next h => subst h; omega
      · exact z2
theorem lost_ISE (h : ISE A B) {x x' y y' : Int} : ISE (upA (upA A 0 7 x) 48 j y) (upA (upA B 0 7 x') 48 j y') := by
  have e : ∀ (A : AT) (x y : Int) (f : Nat), f ≠ 0 → f ≠ 48 → upA (upA A 0 7 x) 48 j y f = A f := fun A x y f h1 h2 => by rw [upA_f h2, upA_f h1]
  have e0 : ∀ (A : AT) (x y k : Int), k ≠ 7 → upA (upA A 0 7 x) 48 j y 0 k = A 0 k := fun A x y k hk => by rw [upA_n (by decide), upA_d hk]
  have sp : ∀ (A : AT) (x y : Int), SP A (upA (upA A 0 7 x) 48 j y) := fun A x y => ⟨e0 _ _ _ _ (by decide), e0 _ _ _ _ (by decide), e0 _ _ _ _ (by decide), e0 _ _ _ _ (by decide), e0 _ _ _ _ (by decide), e0 _ _ _ _ (by decide), e _ _ _ _ (by decide) (by decide), e _ _ _ _ (by decide) (by decide), e _ _ _ _ (by decide) (by decide), e _ _ _ _ (by decide) (by decide), e _ _ _ _ (by decide) (by decide), e _ _ _ _ (by decide) (by decide), e _ _ _ _ (by decide) (by decide), e _ _ _ _ (by decide) (by decide), e _ _ _ _ (by decide) (by decide), e _ _ _ _ (by decide) (by decide), e _ _ _ _ (by decide) (by decide)⟩
  have ef : ∀ (A : AT) (x y : Int) (l : List Nat), 0 ∉ l → 48 ∉ l → EF l A (upA (upA A 0 7 x) 48 j y) := fun A x y l a b => ⟨fun f hf => e _ _ _ _ (mem_ne hf a) (mem_ne hf b), e0 _ _ _ _ (by decide)⟩
  obtain ⟨k1, k2, k3, k4, k5⟩ := h
  exact ⟨C1_k k1 (sp _ _ _) (ef _ _ _ _ (by decide) (by decide)) (ef _ _ _ _ (by decide) (by decide)), C2_k k2 (sp _ _ _) (ef _ _ _ _ (by decide) (by decide)) (ef _ _ _ _ (by decide) (by decide)), C3_k k3 (sp _ _ _) (sp _ _ _) (ef _ _ _ _ (by decide) (by decide)) (ef _ _ _ _ (by decide) (by decide)), C4_k k4 (sp _ _ _) (ef _ _ _ _ (by decide) (by decide)) (ef _ _ _ _ (by decide) (by decide)), C5_k k5 (sp _ _ _) (ef _ _ _ _ (by decide) (by decide)) (ef _ _ _ _ (by decide) (by decide))⟩
theorem come_TW (h : TW A B T T') (h1 : 0 ≤ c) (h2 : c < A 0 4) : TW (comeA off A c) (comeA off B c) T T' := by
  obtain ⟨hq, hI, hi, hi', hh, hh'⟩ := h
  have n4 : B 0 4 = A 0 4 := hq.1.2.2.2.2.1
  refine ⟨hq.of come_SP come_SP (fun f hf => come_f (by omega) (by omega) (by omega) (by omega) (by omega)) (fun f hf => come_f (by omega) (by omega) (by omega) (by omega) (by omega)) (fun j _ => by rw [come_f (by omega) (by omega) (by omega) (by omega) (by omega)]) (fun j _ => by rw [come_f (by omega) (by omega) (by omega) (by omega) (by omega)]), ?_, come_INV hi h1 h2, come_INV hi' h1 (by omega), come_HLD hh, come_HLD hh'⟩
  have e50 : B 50 = A 50 := by obtain ⟨-, -, -, -, -, -, -, -, -, -, -, e, -⟩ := hq.1; exact e
  have e51 : B 51 = A 51 := by obtain ⟨-, -, -, -, -, -, -, -, -, -, -, -, e, -⟩ := hq.1; exact e
  have e41 : B 41 = A 41 := hq.2.1 41 (by omega)
  obtain ⟨b1, b2, b3, b4, b5, b6, b7, b8⟩ := hi.2.2.2.2.2.1 c h1 h2
  have e44 := (hI.2.2.2.1 (A 50 c) b1 b2).2.1
  have ed := hI.2.2.1 c h1 h2
  have sA : SP A (comeA off A c) := come_SP
  have sB : SP B (comeA off B c) := come_SP
  unfold comeA at sA sB ⊢
  rw [e50, e51, e41, ← ed, ← e44] at sB ⊢
  by_cases c1 : A 50 c = off ∨ dueA A c ≠ 0
  · rw [if_pos c1, if_pos c1]; exact hI
  · rw [if_neg c1] at sA sB
    rw [if_neg c1, if_neg c1]
    by_cases c2 : A 41 (A 50 c) ≤ A 44 (A 50 c)
    · rw [if_pos c2, if_pos c2]; exact lost_ISE hI
    · rw [if_neg c2] at sA sB
      rw [if_neg c2, if_neg c2]
      obtain ⟨d1, d2, d3, d4, -⟩ := hi.2.2.2.1 (A 50 c) b1 b2
      exact join_ISE hq hI hi hi' b1 b2 (by omega) sA sB
theorem comes_TW : ∀ (n : Nat) (c : Int) (A B : AT), c + n = A 0 4 → 0 ≤ c → TW A B T T' → TW (comesA off n c A) (comesA off n c B) T T'
  | 0, _, _, _, _, _, h => h
  | n + 1, c, A, B, h1, h2, h => comes_TW n (c + 1) _ _ (by rw [come_SP.2.2.2.2.1]; omega) (by omega) (come_TW h h2 (by omega))
theorem allCome_TW (h : TW A B T T') : TW (allComeA off A) (allComeA off B) T T' := by
  have g := h.2.2.1.1
  have n4 : B 0 4 = A 0 4 := h.1.1.2.2.2.2.1
  unfold allComeA
  rw [n4]
  exact comes_TW _ _ _ _ (by omega) (by omega) h
theorem adv_TW (h : TW A B T T') : TW (advA (A 0 0) A) (advA (B 0 0) B) T T' := by
  obtain ⟨hq, hI, hi, hi', hh, hh'⟩ := h
  have n0 : B 0 0 = A 0 0 := hq.1.1
  have g := hi.1
  refine ⟨hq.of adv_SP adv_SP (fun f hf => advA_f (by omega)) (fun f hf => advA_f (by omega)) (fun j _ => by rw [advA_f (by omega)]) (fun j _ => by rw [advA_f (by omega)]), ?_, adv_INV hi, adv_INV hi', adv_HLD hh hi, adv_HLD hh' hi'⟩
  have ef : ∀ (A : AT) (l : List Nat), (∀ f, f ∈ l → f < 20 ∨ 25 < f) → EF l A (advA (A 0 0) A) := fun A l hl => ⟨fun f hf => advA_f (hl f hf), by rw [advA_f (by omega)]⟩
  obtain ⟨k1, k2, k3, k4, k5⟩ := hI
  refine ⟨fun q q1 q2 => ?_, C2_k k2 adv_SP (ef _ _ (by decide)) (ef _ _ (by decide)), C3_k k3 adv_SP adv_SP (ef _ _ (by decide)) (ef _ _ (by decide)), C4_k k4 adv_SP (ef _ _ (by decide)) (ef _ _ (by decide)), C5_k k5 adv_SP (ef _ _ (by decide)) (ef _ _ (by decide))⟩
  rw [adv_SP.1] at q2
  have hp : 0 ≤ prv (A 0 0) q ∧ prv (A 0 0) q < A 0 0 := by unfold prv; split <;> omega
  obtain ⟨x1, x2, x3⟩ := k1 (prv (A 0 0) q) hp.1 hp.2
  rw [n0]
  refine ⟨?_, ?_, ?_⟩
  · rw [advA_q (by omega) q1 q2, advA_q (by omega) q1 q2]; exact x1
  · rw [advA_q (by omega) q1 q2, advA_q (by omega) q1 q2]; exact x2
  · rw [advA_q (by omega) q1 q2, advA_q (by omega) q1 q2]; exact x3
theorem exit_TW (h : TW A B T T') (h1 : 0 ≤ e) (h2 : e < A 0 1) : TW (exitA A e) (exitA B e) T T' := by
  obtain ⟨hq, hI, hi, hi', hh, hh'⟩ := h
  have n0 : B 0 0 = A 0 0 := hq.1.1
  have n1 : B 0 1 = A 0 1 := hq.1.2.1
  have e30 : B 30 = A 30 := by obtain ⟨-, -, -, -, -, -, -, -, e, -⟩ := hq.1; exact e
  have e31 : B 31 = A 31 := by obtain ⟨-, -, -, -, -, -, -, -, -, e, -⟩ := hq.1; exact e
  have e26 : B 26 = A 26 := by obtain ⟨-, -, -, -, -, -, e, -⟩ := hq.1; exact e
  have kf : ∀ (A : AT) (f : Nat), f = 41 ∨ f = 42 ∨ f = 43 ∨ f = 45 → exitA A e f = A f := fun A f hf => exit_f (by omega) (by omega) (by omega) (by omega) (by omega) (by omega) (by omega) (by omega) (by omega) (by omega)
  have hd : ∀ (A : AT), HLD A → HLD (exitA A e) := fun A hh => hh.mv exit_SP.1 exit_SP.2.2.2.1 (exit_f (by decide) (by decide) (by decide) (by decide) (by decide) (by decide) (by decide) (by decide) (by decide) (by decide)) (exit_f (by decide) (by decide) (by decide) (by decide) (by decide) (by decide) (by decide) (by decide) (by decide) (by decide))
  refine ⟨hq.of exit_SP exit_SP (fun f hf => kf _ f (by omega)) (fun f hf => kf _ f (by omega)) (fun j _ => by rw [kf _ 45 (by omega)]) (fun j _ => by rw [kf _ 45 (by omega)]), ?_, exit_INV hi h1 h2, exit_INV hi' h1 (by omega), hd _ hh, hd _ hh'⟩
  obtain ⟨k1, k2, k3, k4, k5⟩ := hI
  obtain ⟨x1, x2, x3, x4, x5, x6, x7, x8, x9, x10⟩ := hi.2.1 e h1 h2
  obtain ⟨m1, m2⟩ := k2 e h1 h2
  obtain ⟨r1, r2, r3⟩ := k1 (A 30 e) x1 x2
  have hb : exitB A e ↔ exitB B e := by
    unfold mayA at m2
    unfold exitB
    rw [e30, e26, ← r1, ← m1]
    have hm : A 35 e ≤ A 0 5 ↔ B 35 e ≤ B 0 5 := by
      split at m2 <;> split at m2 <;> omega
    rw [hm]
  rcases Classical.em (exitB A e) with h | h
  · have h' := hb.mp h
    have ef : ∀ (A : AT) (q : Int) (l : List Nat), 0 ∉ l → 20 ∉ l → 21 ∉ l → 22 ∉ l → 28 ∉ l → 33 ∉ l → 34 ∉ l → 35 ∉ l → 47 ∉ l → 70 ∉ l → EF l A (takA A e q) := fun A q l b1 b2 b3 b4 b5 b6 b7 b8 b9 b10 => ⟨fun f hf => takA_f (mem_ne hf b1) (mem_ne hf b2) (mem_ne hf b3) (mem_ne hf b4) (mem_ne hf b5) (mem_ne hf b6) (mem_ne hf b7) (mem_ne hf b8) (mem_ne hf b9) (mem_ne hf b10), takA_0 (by decide) (by decide)⟩
    rw [exitA_t h, exitA_t h', e30]
    refine ⟨fun q q1 q2 => ?_, fun y y1 y2 => ?_, C3_k k3 tak_SP tak_SP (ef _ _ _ (by decide) (by decide) (by decide) (by decide) (by decide) (by decide) (by decide) (by decide) (by decide) (by decide)) (ef _ _ _ (by decide) (by decide) (by decide) (by decide) (by decide) (by decide) (by decide) (by decide) (by decide) (by decide)), C4_k k4 tak_SP (ef _ _ _ (by decide) (by decide) (by decide) (by decide) (by decide) (by decide) (by decide) (by decide) (by decide) (by decide)) (ef _ _ _ (by decide) (by decide) (by decide) (by decide) (by decide) (by decide) (by decide) (by decide) (by decide) (by decide)), C5_k k5 tak_SP (ef _ _ _ (by decide) (by decide) (by decide) (by decide) (by decide) (by decide) (by decide) (by decide) (by decide) (by decide)) (ef _ _ _ (by decide) (by decide) (by decide) (by decide) (by decide) (by decide) (by decide) (by decide) (by decide) (by decide))⟩
    · rw [tak_SP.1] at q2
      obtain ⟨w1, w2, w3⟩ := k1 q q1 q2
      refine ⟨?_, ?_, ?_⟩
      · rw [takA_20, takA_20, w1]
      · rw [takA_21, takA_21, w2]
      · rw [takA_f (by decide) (by decide) (by decide) (by decide) (by decide) (by decide) (by decide) (by decide) (by decide) (by decide), takA_f (by decide) (by decide) (by decide) (by decide) (by decide) (by decide) (by decide) (by decide) (by decide) (by decide), w3]
    · rw [tak_SP.2.1] at y2
      obtain ⟨w1, w2⟩ := k2 y y1 y2
      refine ⟨?_, ?_⟩
      · rw [takA_f (by decide) (by decide) (by decide) (by decide) (by decide) (by decide) (by decide) (by decide) (by decide) (by decide), takA_f (by decide) (by decide) (by decide) (by decide) (by decide) (by decide) (by decide) (by decide) (by decide) (by decide), w1]
      · unfold mayA at w2 ⊢
        rw [takA_35, takA_35, takA_0 (by decide) (by decide), takA_0 (by decide) (by decide), e31]
        by_cases hy : y = e
        · rw [if_pos hy, if_pos hy, show A 0 5 + A 31 e - A 0 5 = A 31 e by omega, show B 0 5 + A 31 e - B 0 5 = A 31 e by omega]
        · rw [if_neg hy, if_neg hy]; exact w2
  · rw [exitA_n h, exitA_n (fun z => h (hb.mpr z))]
    exact ⟨k1, k2, k3, k4, k5⟩
theorem exits_TW : ∀ (n : Nat) (e : Int) (A B : AT), e + n = A 0 1 → 0 ≤ e → TW A B T T' → TW (exitsA n e A) (exitsA n e B) T T'
  | 0, _, _, _, _, _, h => h
  | n + 1, e, A, B, h1, h2, h => exits_TW n (e + 1) _ _ (by rw [exit_SP.2.1]; omega) (by omega) (exit_TW h h2 (by omega))
theorem allExits_TW (h : TW A B T T') : TW (allExitsA A) (allExitsA B) T T' := by
  have g := h.2.2.1.1
  have n1 : B 0 1 = A 0 1 := h.1.1.2.1
  unfold allExitsA
  rw [n1]
  exact exits_TW _ _ _ _ (by omega) (by omega) h
theorem go_ISE (hq : SQ A B) (h : ISE A B) (hi : INV A T) (h1 : 0 ≤ j) (h2 : j < A 0 3) (h3 : 0 < A 44 j) : ISE (goA A j q) (goA B j q) := by
  have g := hi.1
  have n3 : B 0 3 = A 0 3 := hq.1.2.2.2.1
  have ef : ∀ (A : AT) (l : List Nat), (∀ f, f ∈ l → f < 20 ∨ 24 < f) → 44 ∉ l → 46 ∉ l → 49 ∉ l → 60 ∉ l → 61 ∉ l → EF l A (goA A j q) := fun A l a b c d e f => ⟨fun x hx => goA_f (a x hx) (mem_ne hx b) (mem_ne hx c) (mem_ne hx d) (mem_ne hx e) (mem_ne hx f), by rw [goA_f (by omega) (by decide) (by decide) (by decide) (by decide) (by decide)]⟩
  obtain ⟨k1, k2, k3, k4, k5⟩ := h
  have b44 : ∀ y, 0 ≤ y → y < A 0 3 → 0 ≤ A 44 y ∧ A 44 y ≤ 20 := fun y y1 y2 => by
    obtain ⟨-, -, -, -, -, -, -, -, b9, b10, -⟩ := hi.2.2.2.1 y y1 y2
    exact ⟨b9, b10⟩
  obtain ⟨ej0, ej, ejk⟩ := k4 j h1 h2
  have c4 := ejk 0 (Int.le_refl _) h3
  rw [Int.add_zero] at c4
  refine ⟨fun y y1 y2 => ?_, C2_k k2 go_SP (ef _ _ (by decide) (by decide) (by decide) (by decide) (by decide) (by decide)) (ef _ _ (by decide) (by decide) (by decide) (by decide) (by decide) (by decide)), C3_k k3 go_SP go_SP (ef _ _ (by decide) (by decide) (by decide) (by decide) (by decide) (by decide)) (ef _ _ (by decide) (by decide) (by decide) (by decide) (by decide) (by decide)), fun y y1 y2 => ?_, fun hu y y1 y2 k z1 z2 => ?_⟩
  · rw [go_SP.1] at y2
    obtain ⟨w1, w2, w3⟩ := k1 y y1 y2
    refine ⟨?_, ?_, ?_⟩
    · rw [goA_20, goA_20, w1, c4]
    · rw [goA_21, goA_21, w2]
    · rw [goA_f (by omega) (by decide) (by decide) (by decide) (by decide) (by decide), goA_f (by omega) (by decide) (by decide) (by decide) (by decide) (by decide), w3]
  · rw [go_SP.2.2.2.1] at y2
    obtain ⟨w1, w2, w3⟩ := k4 y y1 y2
    have := b44 y y1 y2
    have := b44 j h1 h2
    refine ⟨by rw [goA_f (by omega) (by decide) (by decide) (by decide) (by decide) (by decide), goA_f (by omega) (by decide) (by decide) (by decide) (by decide) (by decide)]; exact w1, by rw [goA_44, goA_44, ej, w2], fun k z1 z2 => ?_⟩
    rw [goA_44] at z2
    rw [goA_60 (by omega), goA_60 (by omega), ← ej]
    by_cases hy : y = j
    · subst hy
      rw [if_pos rfl] at z2
      rw [if_pos (by omega), if_pos (by omega), Int.add_assoc]
      exact ejk (k + 1) (by omega) (by omega)
    · rw [if_neg hy] at z2
      rw [if_neg (by omega), if_neg (by omega)]
      exact w3 k z1 z2
  · rw [go_SP.2.2.2.1] at y2
    rw [use_SP go_SP] at hu
    obtain ⟨w1, w2, w3⟩ := k4 y y1 y2
    have := b44 y y1 y2
    have := b44 j h1 h2
    rw [goA_44] at z2
    rw [(ef A [] (by decide) (by decide) (by decide) (by decide) (by decide) (by decide)).2, (ef B [] (by decide) (by decide) (by decide) (by decide) (by decide) (by decide)).2, goA_60 (f := 61) (by omega), goA_60 (f := 61) (by omega), ← ej]
    by_cases hy : y = j
    · subst hy
      rw [if_pos rfl] at z2
      rw [if_pos (by omega), if_pos (by omega), Int.add_assoc]
      exact k5 hu y y1 y2 (k + 1) (by omega) (by omega)
    · rw [if_neg hy] at z2
      rw [if_neg (by omega), if_neg (by omega)]
      exact k5 hu y y1 y2 k z1 z2
theorem gon_ISE (hq : SQ A B) (h : ISE A B) (hi : INV A T) (h1 : 0 ≤ j) (h2 : j < A 0 3) : ISE (gonA A j q) (gonA B j q) := by
  have e := (h.2.2.2.1 j h1 h2).2.1
  unfold gonA
  rw [← e]
  split
  · next h3 => exact go_ISE hq h hi h1 h2 h3
  · exact h
theorem rel_ISE (h : ISE A B) : ISE (relA A j q) (relA B j q) := by
  have ef : ∀ (A : AT) (l : List Nat), 25 ∉ l → 90 ∉ l → EF l A (relA A j q) := fun A l a b => ⟨fun x hx => relA_f (mem_ne hx a) (mem_ne hx b), by rw [relA_f (by decide) (by decide)]⟩
  obtain ⟨k1, k2, k3, k4, k5⟩ := h
  refine ⟨fun y y1 y2 => ?_, C2_k k2 rel_SP (ef _ _ (by decide) (by decide)) (ef _ _ (by decide) (by decide)), C3_k k3 rel_SP rel_SP (ef _ _ (by decide) (by decide)) (ef _ _ (by decide) (by decide)), C4_k k4 rel_SP (ef _ _ (by decide) (by decide)) (ef _ _ (by decide) (by decide)), C5_k k5 rel_SP (ef _ _ (by decide) (by decide)) (ef _ _ (by decide) (by decide))⟩
  rw [rel_SP.1] at y2
  obtain ⟨w1, w2, w3⟩ := k1 y y1 y2
  refine ⟨?_, ?_, ?_⟩
  · rw [relA_f (by decide) (by decide), relA_f (by decide) (by decide), w1]
  · rw [relA_f (by decide) (by decide), relA_f (by decide) (by decide), w2]
  · rw [relA_25, relA_25, w3]
theorem side_TW (h : TW A B T T') (h1 : 0 ≤ j) (h2 : j < A 0 3) : TW (sideA A j) (sideA B j) T T' := by
  obtain ⟨hq, hI, hi, hi', hh, hh'⟩ := h
  have n3 : B 0 3 = A 0 3 := hq.1.2.2.2.1
  have e40 : B 40 = A 40 := by obtain ⟨-, -, -, -, -, -, -, -, -, -, e, -⟩ := hq.1; exact e
  refine ⟨hq.of side_SP side_SP (fun f hf => side_f (by omega) (by omega) (by omega) (by omega) (by omega) (by omega) (by omega)) (fun f hf => side_f (by omega) (by omega) (by omega) (by omega) (by omega) (by omega) (by omega)) (fun j _ => by rw [side_f (by omega) (by omega) (by omega) (by omega) (by omega) (by omega) (by omega)]) (fun j _ => by rw [side_f (by omega) (by omega) (by omega) (by omega) (by omega) (by omega) (by omega)]), ?_, side_INV hi h1 h2, side_INV hi' h1 (by omega), side_HLD hh hi h1 h2, side_HLD hh' hi' h1 (by omega)⟩
  obtain ⟨d1, d2, -⟩ := hi.2.2.2.1 j h1 h2
  obtain ⟨w1, w2, w3⟩ := hI.1 (A 40 j) d1 d2
  unfold sideA
  rw [e40, ← w1, ← w3]
  by_cases c1 : A 25 (A 40 j) = j
  · rw [if_pos c1, if_pos c1]
    exact gon_ISE (hq.of rel_SP rel_SP (fun f hf => relA_f (by omega) (by omega)) (fun f hf => relA_f (by omega) (by omega)) (fun j _ => by rw [relA_f (by omega) (by omega)]) (fun j _ => by rw [relA_f (by omega) (by omega)])) (rel_ISE hI) (rel_INV hi) h1 (by rw [rel_SP.2.2.2.1]; exact h2)
  · rw [if_neg c1, if_neg c1]
    split
    · exact gon_ISE hq hI hi h1 h2
    · exact hI
theorem sides_TW : ∀ (n : Nat) (j : Int) (A B : AT), j + n = A 0 3 → 0 ≤ j → TW A B T T' → TW (sidesA n j A) (sidesA n j B) T T'
  | 0, _, _, _, _, _, h => h
  | n + 1, j, A, B, h1, h2, h => sides_TW n (j + 1) _ _ (by rw [side_SP.2.2.2.1]; omega) (by omega) (side_TW h h2 (by omega))
theorem allSides_TW (h : TW A B T T') : TW (allSidesA A) (allSidesA B) T T' := by
  have g := h.2.2.1.1
  have n3 : B 0 3 = A 0 3 := h.1.1.2.2.2.1
  unfold allSidesA
  rw [n3]
  exact sides_TW _ _ _ _ (by omega) (by omega) h
end ISE1
