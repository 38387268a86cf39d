/-! turns: gaps are reserved -/
section TUR
set_option maxRecDepth 100000
variable {u s p l t g : Nat} {j k q e w c T tu nx v off sh i : Int} {A A' : AT} {M M' : Mem} {X : PX} {f : Nat}
def mskF (b : Nat → Bool) : Nat → Int32
  | 0 => ii 0
  | n + 1 => if b n then mskF b n ||| (ii 1 <<< (ii n &&& ii 31)) else mskF b n
theorem mskF_c {b d : Nat → Bool} : ∀ {n : Nat}, (∀ y, y < n → b y = d y) → mskF b n = mskF d n
  | 0, _ => rfl
  | n + 1, h => by
    unfold mskF
    rw [mskF_c (n := n) fun y a => h y (by omega), h n (by omega)]
theorem msk_all : ∀ (b0 b1 b2 b3 b4 b5 : Bool), ((List.range 7).all fun n => (List.range 6).all fun i => (decide ((mskF (fun k => [b0, b1, b2, b3, b4, b5].getD k false) n >>> (ii i &&& ii 31)) &&& ii 1 = ii 1)) == (Nat.blt i n && [b0, b1, b2, b3, b4, b5].getD i false)) = true := by decide +kernel
theorem mskF_bit {b : Nat → Bool} {n i : Nat} (hn : n ≤ 6) (hi : i < 6) : ((mskF b n >>> (ii i &&& ii 31)) &&& ii 1 = ii 1) ↔ (i < n ∧ b i = true) := by
  have h := List.all_eq_true.mp (List.all_eq_true.mp (msk_all (b 0) (b 1) (b 2) (b 3) (b 4) (b 5)) n (List.mem_range.mpr (by omega))) i (List.mem_range.mpr hi)
  have hb : ∀ k, k < 6 → [b 0, b 1, b 2, b 3, b 4, b 5].getD k false = b k := fun k hk => by
    rcases (by omega : k = 0 ∨ k = 1 ∨ k = 2 ∨ k = 3 ∨ k = 4 ∨ k = 5) with rfl | rfl | rfl | rfl | rfl | rfl <;> rfl
  rw [mskF_c (d := b) (fun y hy => hb y (by omega)), hb i hi] at h
  have h := eq_of_beq h
  constructor
  · intro q
    rw [decide_eq_true q] at h
    have h := h.symm
    rw [Bool.and_eq_true] at h
    exact ⟨lt_of_blt h.1, h.2⟩
  · intro q
    have e : (Nat.blt i n && b i) = true := by rw [Bool.and_eq_true]; exact ⟨Nat.ble_eq_true_of_le q.1, q.2⟩
    rw [e] at h
    exact of_decide_eq_true h
def payP (A : AT) (b : Int → Bool) (i : Int) : AT := fun f y => if f = 45 ∧ 0 ≤ y ∧ y < i then A 45 y + (if b y then A 43 y else 0) else A f y
def payA (A : AT) (b : Int → Bool) (c sh : Int) : AT := fun f y => if f = 45 ∧ 0 ≤ y ∧ y < A 0 3 then A 45 y + (if b y then A 43 y else 0) - (if y = c then sh else 0) else A f y
theorem payP_f {b : Int → Bool} (h : f ≠ 45) : payP A b i f = A f := by
  funext y
  unfold payP
  rw [if_neg (fun z => h z.1)]
theorem payA_f {b : Int → Bool} (h : f ≠ 45) : payA A b c sh f = A f := by
  funext y
  unfold payA
  rw [if_neg (fun z => h z.1)]
theorem WS.scr (h : WS M p s A T) (hM : ∀ b, b ≠ p + 27 → b ≠ p + 31 → M' b = M b) : WS M' p s A T := by
  obtain ⟨w1, w2, w3, w4, w5, w6, w7⟩ := h
  exact ⟨PLv_k w1 (fun b _ _ b3 b4 => hM b b3 b4) SP.rf, w2, STv_k w3 (fun b b1 b2 => hM b (by omega) (by omega)) rfl, w4, w5, w6, w7⟩
theorem pay_SP {b : Int → Bool} : SP A (payA A b c sh) := by
  refine ⟨?_, ?_, ?_, ?_, ?_, ?_, ?_, ?_, ?_, ?_, ?_, ?_, ?_, ?_, ?_, ?_, ?_⟩ <;> rw [payA_f (by decide)]
theorem payP_SP {b : Int → Bool} : SP A (payP A b i) := by
  refine ⟨?_, ?_, ?_, ?_, ?_, ?_, ?_, ?_, ?_, ?_, ?_, ?_, ?_, ?_, ?_, ?_, ?_⟩ <;> rw [payP_f (by decide)]
theorem mem_ne {l : List Nat} {x : Nat} (h : f ∈ l) (hx : x ∉ l) : f ≠ x := fun e => hx (e ▸ h)
theorem pay_INV {b : Int → Bool} (hi : INV A T) : INV (payA A b c sh) T := INV_same hi (fun k _ _ => by rw [payA_f (by decide)]) (fun f hf => payA_f (mem_ne hf (by decide)))
theorem payP_INV {b : Int → Bool} (hi : INV A T) : INV (payP A b i) T := INV_same hi (fun k _ _ => by rw [payP_f (by decide)]) (fun f hf => payP_f (mem_ne hf (by decide)))
theorem S71l {b : Int → Bool} {x : Int32} (hc : 0 ≤ c ∧ c < A 0 3) (hbit : ∀ i, 0 ≤ i → i < A 0 3 → (((x >>> (ii i &&& ii 31)) &&& ii 1 = ii 1) ↔ b i = true)) : ∀ (m : Nat) (i : Int) (M : Mem), i + m = A 0 3 → 0 ≤ i → WS M p s (payP A b i) T → ∃ M', ev true 71 0 3 [pR 6 s, pR 5 p, pI x, pI (ii c), pI (ii sh), pI (ii i)] [] M X = some (.inl none, M', X) ∧ WS M' p s (payA A b c sh) T ∧ ∀ b, b ≠ s + 28 → M' b = M b := by
  intro m
  induction m with
  | zero =>
    intro i M h1 h2 h
    have hw := h
    obtain ⟨hp, hpl, hs, hl, hi, hT, hd⟩ := h
    have g := hi.1
    have l27 : rl (s + 27) = 6 := hl.2.2.2.2.2.2.2.1
    have e3 := hp.2.2.2.1
    rw [payP_f (by decide)] at e3 g
    have hr := hs.2.2.2.2.2.2.2.1 c hc.1 (by rw [payP_f (by decide)]; exact hc.2)
    have e45 : payP A b i 45 c = A 45 c + (if b c then A 43 c else 0) := by unfold payP; rw [if_pos ⟨rfl, hc.1, by omega⟩]
    rw [e45] at hr
    refine ⟨sc M (s + 27) c (ii (A 45 c + (if b c then A 43 c else 0) - sh)), ?_, ?_, fun y hy => by funext z; exact sc_n (by omega)⟩
    · rw [q71_3, e3, ltF (by omega), ii_neg, S15 hc.1 (by omega), kb0, q71_57, hr, ii_add, show A 45 c + (if b c then A 43 c else 0) + -sh = A 45 c + (if b c then A 43 c else 0) - sh by omega]
    · have h9 := ST_45 (v := A 45 c + (if b c then A 43 c else 0) - sh) hs hc.1
      have e : upA (payP A b i) 45 c (A 45 c + (if b c then A 43 c else 0) - sh) = payA A b c sh := by
        funext f y
        unfold upA payP payA
        by_cases hf : f = 45
        · subst hf
          by_cases hy : y = c
          · subst hy
            simp (disch := omega) only [true_and, and_true, and_self, if_true, if_false, if_pos, if_neg]
          · by_cases hz : 0 ≤ y ∧ y < i
            · simp (disch := omega) only [true_and, and_true, and_self, if_true, if_false, if_pos, if_neg]; omega
            · simp (disch := omega) only [true_and, and_true, and_self, if_true, if_false, if_pos, if_neg]
        · rw [if_neg (fun z => hf z.1), if_neg (fun z => hf z.1), if_neg (fun z => hf z.1)]
      rw [e] at h9
      have hS : SP (payP A b i) (payA A b c sh) := by
        refine ⟨?_, ?_, ?_, ?_, ?_, ?_, ?_, ?_, ?_, ?_, ?_, ?_, ?_, ?_, ?_, ?_, ?_⟩ <;> rw [payA_f (by decide), payP_f (by decide)]
      refine WS.of hw h9 (fun y hy => by funext z; exact sc_n (by omega)) hS ?_
      exact INV_same hi (fun k _ _ => by rw [payA_f (by decide), payP_f (by decide)]) (fun f hf => by rw [payA_f (mem_ne hf (by decide)), payP_f (mem_ne hf (by decide))])
  | succ m ih =>
    intro i M h1 h2 h
    have hw := h
    obtain ⟨hp, hpl, hs, hl, hi, hT, hd⟩ := h
    have g := hi.1
    have l27 : rl (s + 27) = 6 := hl.2.2.2.2.2.2.2.1
    have l25 : rl (s + 25) = 6 := hl.2.2.2.2.2.2.1
    have e3 := hp.2.2.2.1
    rw [payP_f (by decide)] at e3 g
    have h03 : payP A b i 0 3 = A 0 3 := by rw [payP_f (by decide)]
    have r45 := hs.2.2.2.2.2.2.2.1 i h2 (by omega)
    have r43 := hs.2.2.2.2.2.2.1 i h2 (by omega)
    have e45 : payP A b i 45 i = A 45 i := by unfold payP; rw [if_neg (by omega)]
    rw [e45] at r45
    rw [payP_f (by decide)] at r43
    have ext : ∀ f y, payP A b (i + 1) f y = if f = 45 ∧ y = i then A 45 i + (if b i then A 43 i else 0) else payP A b i f y := by
      intro f y
      unfold payP
      by_cases hf : f = 45
      · subst hf
        by_cases hy : y = i
        · subst hy
          simp (disch := omega) only [true_and, and_true, and_self, if_true, if_false, if_pos, if_neg]
        · by_cases hz : 0 ≤ y ∧ y < i
          · simp (disch := omega) only [true_and, and_true, and_self, if_true, if_false, if_pos, if_neg]
          · simp (disch := omega) only [true_and, and_true, and_self, if_true, if_false, if_pos, if_neg]
      · rw [if_neg (fun z => hf z.1), if_neg (fun z => hf z.1), if_neg (fun z => hf z.1)]
    have hS : SP (payP A b i) (payP A b (i + 1)) := by
      refine ⟨?_, ?_, ?_, ?_, ?_, ?_, ?_, ?_, ?_, ?_, ?_, ?_, ?_, ?_, ?_, ?_, ?_⟩ <;> rw [payP_f (by decide), payP_f (by decide)]
    have hI : INV (payP A b (i + 1)) T := INV_same hi (fun k _ _ => by rw [payP_f (by decide), payP_f (by decide)]) (fun f hf => by rw [payP_f (mem_ne hf (by decide)), payP_f (mem_ne hf (by decide))])
    by_cases hb : b i = true
    · have h9 := ST_45 (v := A 45 i + A 43 i) hs h2
      have e : upA (payP A b i) 45 i (A 45 i + A 43 i) = payP A b (i + 1) := by
        funext f y
        rw [ext, hb]
        unfold upA
        rfl
      rw [e] at h9
      obtain ⟨M', t1, t2, t3⟩ := ih (i + 1) (sc M (s + 27) i (ii (A 45 i + A 43 i))) (by omega) (by omega) (WS.of hw h9 (fun y hy => by funext z; exact sc_n (by omega)) hS hI)
      refine ⟨M', ?_, t2, fun y hy => by rw [t3 y hy]; funext z; exact sc_n (by omega)⟩
      rw [q71_3, e3, ltT (by omega), i_31, i_1, if_pos ((hbit i h2 (by omega)).mpr hb), S12 h2 (by omega), kb1, q71_37, r43, S15 h2 (by omega), kb0, r45, ii_add, q71_40, i_1, ii_add, t1]
    · have e : payP A b (i + 1) = payP A b i := by
        funext f y
        rw [ext]
        by_cases hz : f = 45 ∧ y = i
        · obtain ⟨rfl, rfl⟩ := hz
          rw [e45]
          simp only [hb, and_self, if_true, if_false, Int.add_zero]
          simp
        · rw [if_neg hz]
      obtain ⟨M', t1, t2, t3⟩ := ih (i + 1) M (by omega) (by omega) (by rw [e]; exact hw)
      refine ⟨M', ?_, t2, t3⟩
      rw [q71_3, e3, ltT (by omega), i_31, i_1, if_neg (fun z => hb ((hbit i h2 (by omega)).mp z)), q71_40, i_1, ii_add, t1]
theorem S71 {b : Int → Bool} {x : Int32} (h : WS M p s A T) (hc : 0 ≤ c ∧ c < A 0 3) (hbit : ∀ i, 0 ≤ i → i < A 0 3 → (((x >>> (ii i &&& ii 31)) &&& ii 1 = ii 1) ↔ b i = true)) : ∃ M', ev true 71 0 0 [pR 6 s, pR 5 p, pI x, pI (ii c), pI (ii sh), p0] [] M X = some (.inl none, M', X) ∧ WS M' p s (payA A b c sh) T ∧ ∀ b, b ≠ s + 28 → M' b = M b := by
  have g := h.2.2.2.2.1.1
  have e : payP A b 0 = A := by
    funext f y
    unfold payP
    rw [if_neg (by omega)]
  obtain ⟨M', t1, t2, t3⟩ := S71l (X := X) (sh := sh) hc hbit (A 0 3).toNat 0 M (by omega) (by omega) (by rw [e]; exact h)
  exact ⟨M', by rw [q71_0, i_0, t1], t2, t3⟩
end TUR
