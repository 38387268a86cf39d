/-! sums, and all positions of a text -/
section SUMA
set_option maxRecDepth 100000
variable {z y a c u lo hi v0 N j T x o : Int} {M M' M0 M1 M2 : Mem} {X : PX} {n m i e p t b b' b1 b2 b3 d d' tk lv L h h2 : Nat} {D : Nat → Int} {P : PS} {cs w ps c1 : List Int} {q : Int × Nat} {v v2 : (Int → Int32) → Int32}
def SPre (D : Nat → Int) (n b d b1 : Nat) (c1 ps : List Int) (v : (Int → Int32) → Int32) : Prop :=
  b < b1 ∧ b1 ≤ n ∧ NB D n b1 ∧ (∀ x, x ∈ ps → 1 ≤ stg x) ∧ ps.length ≤ 2 ∧
  (∀ (M : Mem) (X : PX) (lv : Nat), lv ≤ 3 * d → RTP M D n (.inl b) → M 819 26 = ii d → ∃ M', ev true 288 lv 0 [pR 13 819] [] M X = ev true 288 lv 4 [pR 13 819] [] M' X ∧ RTP M' D n (.inl b1) ∧ FrP M M') ∧
  (∀ cs w, w.length ≤ 3 * d → topL w 1 → CGo D n b 1 d cs w b1 0 d (cs ++ c1) (ps ++ w)) ∧ VSt (c1 ++ ps) (3 * (6 - d) + 3) v ∧ EvU D n (3 * d) b b1 v ∧ (LAt D b b1 ↔ (-6 : Int) ∈ c1 ++ ps) ∧ sgB D n b1 42 = false
theorem sum_lp (hd : d ≤ 6) (hP : ∀ b2, b < b2 → b2 ≤ n → NB D n b2 → TermOK D n b2 d) : ∀ (m b1 : Nat) (c1 ps : List Int) (v : (Int → Int32) → Int32), n - b1 ≤ m → SPre D n b d b1 c1 ps v → SumOK D n b d := by
  intro m
  induction m with
  | zero =>
    intro b1 c1 ps v hm ⟨h1, h2, h3, h4, h5, h6, h7, h8, h9, h10, h11⟩
    have hs : ∀ c, sgB D n b1 c = false := fun c => by
      cases hs : sgB D n b1 c
      · rfl
      · have := (sg_in hs).1; omega
    refine ⟨.inl b1, fun M X lv hl h h26 => ?_, fun f hf => (by cases hf), fun b' hb' => ?_⟩
    · obtain ⟨M', a1, a2, a3⟩ := h6 M X lv hl h h26
      exact ⟨M', by rw [a1, q288_4, i_43, S47 a2 (by omega), kb1, q288_10, i_0, bIT, sgR_l, hs, cond_false, i_45, S47 a2 (by omega), kb1, q288_19, i_0, bIT, sgR_l, hs]; rfl, a2, a3⟩
    · cases hb'
      exact ⟨⟨h1, h2, h3, c1, ps, v, h4, by omega, h7, h8, h9.last (hs _) (hs _), h10⟩, fun _ => h11, fun _ => ⟨hs _, hs _⟩⟩
  | succ m ih =>
    intro b1 c1 ps v hm hh
    have hh' := hh
    obtain ⟨h1, h2, h3, h4, h5, h6, h7, h8, h9, h10, h11⟩ := hh'
    by_cases hno : sgB D n b1 43 = false ∧ sgB D n b1 45 = false
    · obtain ⟨n1, n2⟩ := hno
      refine ⟨.inl b1, fun M X lv hl h h26 => ?_, fun f hf => (by cases hf), fun b' hb' => ?_⟩
      · obtain ⟨M', a1, a2, a3⟩ := h6 M X lv hl h h26
        exact ⟨M', by rw [a1, q288_4, i_43, S47 a2 (by omega), kb1, q288_10, i_0, bIT, sgR_l, n1, cond_false, i_45, S47 a2 (by omega), kb1, q288_19, i_0, bIT, sgR_l, n2]; rfl, a2, a3⟩
      · cases hb'
        exact ⟨⟨h1, h2, h3, c1, ps, v, h4, by omega, h7, h8, h9.last n1 n2, h10⟩, fun _ => h11, fun _ => ⟨n1, n2⟩⟩
    · have hop : ∃ o c, opC D n b1 = o ∧ ((o = -11 ∧ sgB D n b1 43 = true) ∨ (o = -12 ∧ sgB D n b1 45 = true)) ∧ sgB D n b1 c = true ∧ (c = 43 ∨ c = 45) := by
        cases n1 : sgB D n b1 43
        · cases n2 : sgB D n b1 45
          · exact absurd ⟨n1, n2⟩ hno
          · exact ⟨-12, 45, op_12 n2, Or.inr ⟨rfl, rfl⟩, n2, Or.inr rfl⟩
        · exact ⟨-11, 43, op_11 n1, Or.inl ⟨rfl, rfl⟩, n1, Or.inl rfl⟩
      obtain ⟨o, c, o1, o2, hs, hc2⟩ := hop
      have hos : stg o = 1 ∧ -12 ≤ o ∧ o ≤ -11 := by
        rcases o2 with w | w
        · rw [w.1]; decide
        · rw [w.1]; decide
      obtain ⟨s1, s2, s3, s4, s5, s6, s7⟩ := sg_in hs
      obtain ⟨P2, r1, r2, r3⟩ := hP (nxD D n b1) (by omega) s6 s7
      have ref : ∀ (M : Mem) (X : PX) (lv : Nat), lv ≤ 3 * d → RTP M D n (.inl b) → M 819 26 = ii d → ∃ M', ev true 288 lv 0 [pR 13 819] [] M X = ev true 288 lv 4 [pR 13 819] [] M' X ∧ RTP M' D n P2 ∧ FrP M M' := by
        intro M X lv hl h h26
        obtain ⟨M1, a1, a2, a3⟩ := h6 M X lv hl h h26
        obtain ⟨M2, c1, c2, c3⟩ := S192 (X := X) a2
        obtain ⟨M3, e1, e2, e3⟩ := r1 M2 X (lv + 1) (by omega) c2 (by rw [c3.2 26 (by omega), a3.2 26 (by omega)]; exact h26)
        refine ⟨M3, ?_, e2, a3.tr (c3.tr e3)⟩
        have go : ev true 288 lv 22 [pR 13 819] [] M1 X = ev true 288 lv 4 [pR 13 819] [] M3 X := by
          rw [q288_22, c1, kb0, q288_26, blt40 (by omega), cond_true, e1, kb0, q288_30]
        rw [a1, q288_4, i_43, S47 a2 (by omega), kb1, q288_10, i_0, bIT, sgR_l]
        cases n1 : sgB D n b1 43
        · have n2 : sgB D n b1 45 = true := by
            rcases o2 with w | w
            · rw [n1] at w; exact absurd w.2 (by decide)
            · exact w.2
          rw [cond_false, i_45, S47 a2 (by omega), kb1, q288_19, i_0, bIT, sgR_l, n2, cond_true, go]
        · rw [cond_true, go]
      have go1 : ∀ cs w : List Int, w.length ≤ 3 * d → topL w 1 → CGo D n b 1 d cs w (nxD D n b1) 1 d (cs ++ (c1 ++ ps)) (o :: w) := by
        intro cs w hw ht
        obtain ⟨e1, e2⟩ := set_ap (ps := ps) (w := w) (k := 1) h4 ht
        have ho := c_op (cs := cs ++ c1) (w := ps ++ w) (d := d) o1 (by omega) (by rw [hos.1, e2]; omega)
        rw [hos.1, e1, e2, List.append_assoc] at ho
        exact (h7 cs w hw ht).tr ho
      have tp : ∀ w : List Int, topL (o :: w) 2 := fun w x t e => by cases e; rw [hos.1]; decide
      cases P2 with
      | inr f =>
        refine ⟨.inr f, fun M X lv hl h h26 => ?_, fun f' hf cs w hw ht => ?_, fun b' hb' => by cases hb'⟩
        · obtain ⟨M', a1, a2, a3⟩ := ref M X lv hl h h26
          exact ⟨M', a1.trans (R288f4 a2), a2, a3⟩
        · cases hf
          exact (go1 cs w hw ht).bad (r2 f rfl _ (o :: w) (by rw [List.length_cons]; omega) (tp w))
      | inl b3 =>
        obtain ⟨⟨g1, g2, g3, cp, pp, v2, g4, g5, g6, g7, g8, g9⟩, g10, -⟩ := r3 b3 rfl
        refine ih b3 (c1 ++ ps ++ cp) (pp ++ [o]) (fun pv => tog o (v pv) (v2 pv)) (by omega) ⟨by omega, g2, g3, fun x hx => ?_, by rw [List.length_append]; show pp.length + 1 ≤ 2; omega, ref, fun cs w hw ht => ?_, ?_, h9.op (by omega) o2 g8 g1 g3, ?_, g10 (by omega)⟩
        · rcases List.mem_append.1 hx with w | w
          · have := g4 x w; omega
          · have : x = o := by simpa using w
            rw [this]; omega
        · have := (go1 cs w hw ht).tr (g6 _ (o :: w) (by rw [List.length_cons]; omega) (tp w))
          rw [show cs ++ (c1 ++ ps) ++ cp = cs ++ (c1 ++ ps ++ cp) by simp only [List.append_assoc], show pp ++ o :: w = pp ++ [o] ++ w by simp only [List.append_assoc, List.singleton_append]] at this
          exact this
        · rw [show c1 ++ ps ++ cp ++ (pp ++ [o]) = c1 ++ ps ++ (cp ++ pp) ++ [o] by simp only [List.append_assoc]]
          exact VSt.op h8 g7 (by omega) (by omega)
        · have cu := LAt.cut (D := D) (b := b) (b1 := b1) (b2 := nxD D n b1) (b' := b3) (by omega) (by omega) (by omega) (sg_nl hs (by omega))
          rw [cu, h10, g9, show c1 ++ ps ++ cp ++ (pp ++ [o]) = c1 ++ ps ++ (cp ++ pp) ++ [o] by simp only [List.append_assoc]]
          exact mem_op (by omega)
theorem sum_ok (hd : d ≤ 6) (hb : b ≤ n) (hnb : NB D n b) (hP : ∀ b1, b ≤ b1 → b1 ≤ n → NB D n b1 → TermOK D n b1 d) : SumOK D n b d := by
  obtain ⟨P1, r1, r2, r3⟩ := hP b (Nat.le_refl _) hb hnb
  have ref : ∀ (M : Mem) (X : PX) (lv : Nat), lv ≤ 3 * d → RTP M D n (.inl b) → M 819 26 = ii d → ∃ M', ev true 288 lv 0 [pR 13 819] [] M X = ev true 288 lv 4 [pR 13 819] [] M' X ∧ RTP M' D n P1 ∧ FrP M M' := by
    intro M X lv hl h h26
    obtain ⟨M1, a1, a2, a3⟩ := r1 M X (lv + 1) (by omega) h h26
    exact ⟨M1, by rw [q288_0, blt40 (by omega), cond_true, a1, kb0], a2, a3⟩
  have tp : ∀ w : List Int, topL w 1 → topL w 2 := fun w h x t e => by have := h x t e; omega
  cases P1 with
  | inr f =>
    refine ⟨.inr f, fun M X lv hl h h26 => ?_, fun f' hf cs w hw ht => ?_, fun b' hb' => by cases hb'⟩
    · obtain ⟨M', a1, a2, a3⟩ := ref M X lv hl h h26
      exact ⟨M', a1.trans (R288f4 a2), a2, a3⟩
    · cases hf
      exact r2 f rfl cs w (by omega) (tp w ht)
  | inl b1 =>
    obtain ⟨⟨g1, g2, g3, cp, pp, v, g4, g5, g6, g7, g8, g9⟩, g10, -⟩ := r3 b1 rfl
    have pre : SPre D n b d b1 cp pp v := ⟨g1, g2, g3, fun x hx => by have := g4 x hx; omega, by omega, ref, fun cs w hw ht => g6 cs w (by omega) (tp w ht), g7.le (by omega), EvU.of (by omega) g8 g3, g9, g10 (by omega)⟩
    exact sum_lp hd (fun b2 k1 k2 k3 => hP b2 (by omega) k2 k3) (n - b1) b1 cp pp v (Nat.le_refl _) pre
theorem all_st (hd : d ≤ 6) (hb : b ≤ n) (hnb : NB D n b) (ih : ∀ b1 d1, b < b1 → b1 ≤ n → NB D n b1 → d1 ≤ 6 → PartOK D n b1 d1 ∧ TermOK D n b1 d1 ∧ SumOK D n b1 d1) : PartOK D n b d ∧ TermOK D n b d ∧ SumOK D n b d := by
  have hp : PartOK D n b d := by
    cases hs : sgB D n b 40 with
    | false => exact part_no hs hb hnb hd
    | true =>
      obtain ⟨s1, s2, s3, s4, s5, s6, s7⟩ := sg_in hs
      by_cases c : d = 6
      · exact part_de hs c
      · exact part_pa hs (by omega) (ih _ _ (by omega) s6 s7 (by omega)).2.2
  have ht : TermOK D n b d := term_ok hd hb hnb fun b1 k1 k2 k3 => by
    rcases Nat.eq_or_lt_of_le k1 with e | e
    · rw [← e]; exact hp
    · exact (ih b1 d e k2 k3 hd).1
  exact ⟨hp, ht, sum_ok hd hb hnb fun b1 k1 k2 k3 => by
    rcases Nat.eq_or_lt_of_le k1 with e | e
    · rw [← e]; exact ht
    · exact (ih b1 d e k2 k3 hd).2.1⟩
theorem all_ok : ∀ (m b d : Nat), n - b ≤ m → b ≤ n → NB D n b → d ≤ 6 → PartOK D n b d ∧ TermOK D n b d ∧ SumOK D n b d := by
  intro m
  induction m with
  | zero => exact fun b d hm hb hnb hd => all_st hd hb hnb (fun b1 d1 k1 k2 k3 k4 => absurd k1 (by omega))
  | succ m ih => exact fun b d hm hb hnb hd => all_st hd hb hnb (fun b1 d1 k1 k2 k3 k4 => ih b1 d1 (by omega) k2 k3 k4)
theorem sum_at (hb : b ≤ n) (hnb : NB D n b) : SumOK D n b 0 := (all_ok (n - b) b 0 (Nat.le_refl _) hb hnb (by omega)).2.2
end SUMA
