/-! what turns: both sides read a sum alike -/
section SUMO
set_option maxRecDepth 100000
variable {z y a c u lo hi v0 N j T x o : Int} {M M' M0 M1 M2 : Mem} {X : PX} {n m i e p t b b' b1 b2 b3 d d' tk lv L h h2 : Nat} {D : Nat → Int} {P : PS} {cs w ps c1 : List Int} {q : Int × Nat} {v v2 : (Int → Int32) → Int32}
def RGo (D : Nat → Int) (n id : Nat) (ls : List PV) (L b d : Nat) (P' : PS) : Prop := ∀ (M : Mem) (X : PX) (lv : Nat), lv ≤ L → RTP M D n (.inl b) → M 819 26 = ii d → ∃ M', ev true id lv 0 ls [] M X = some (.inl none, M', X) ∧ RTP M' D n P' ∧ FrP M M'
def topL (w : List Int) (q : Int) : Prop := ∀ x t, w = x :: t → stg x < q
def OKf (D : Nat → Int) (n eid : Nat) (el : List PV) (r : Nat) (q : Int) (b d b' : Nat) : Prop :=
  b < b' ∧ b' ≤ n ∧ NB D n b' ∧ ∃ c1 ps v, (∀ x, x ∈ ps → q ≤ stg x) ∧ ps.length + r ≤ 2 ∧ (∀ cs w, w.length ≤ 3 * d + r → topL w q → CGo D n b 1 d cs w b' 0 d (cs ++ c1) (ps ++ w)) ∧ VSt (c1 ++ ps) (3 * (6 - d) + (3 - r)) v ∧ EvG D n eid el (3 * d + r) b b' v ∧ (LAt D b b' ↔ (-6 : Int) ∈ c1 ++ ps)
def OKs (D : Nat → Int) (n id eid : Nat) (ls el : List PV) (r : Nat) (q : Int) (b d : Nat) : Prop :=
  ∃ P', RGo D n id ls (3 * d + r) b d P' ∧ (∀ f, P' = .inr f → ∀ cs w, w.length ≤ 3 * d + r → topL w q → CBad D n b 1 d cs w f) ∧ ∀ b', P' = .inl b' → OKf D n eid el r q b d b' ∧ (r ≤ 1 → sgB D n b' 42 = false) ∧ (r = 0 → sgB D n b' 43 = false ∧ sgB D n b' 45 = false)
def PartOK (D : Nat → Int) (n b d : Nat) : Prop := OKs D n 290 284 [pR 13 819, p0] [pR 13 819, p0, p0, p0] 2 3 b d
def TermOK (D : Nat → Int) (n b d : Nat) : Prop := OKs D n 289 283 [pR 13 819] [pR 13 819, p0] 1 2 b d
def SumOK (D : Nat → Int) (n b d : Nat) : Prop := OKs D n 288 282 [pR 13 819] [pR 13 819, p0, p0, p0] 0 1 b d
theorem EvG.le {id : Nat} {ls : List PV} (h1 : EvG D n id ls L b b1 v) (h3 : m ≤ L) : EvG D n id ls m b b1 v := fun M X A T j b0 e0 x lv hl => h1 M X A T j b0 e0 x lv (by omega)
theorem op_13 (h : sgB D n b 42 = true) : opC D n b = -13 := by
  rcases op_in D n b with e | e | e | e
  · unfold opC at e
    have s := (sg_in h).2.1
    split at e
    · omega
    · split at e
      · omega
      · omega
  · have := (sg_in h).2.1; have := (sg_in e.2).2.1; omega
  · have := (sg_in h).2.1; have := (sg_in e.2).2.1; omega
  · exact e.1
theorem op_12 (h : sgB D n b 45 = true) : opC D n b = -12 := by
  rcases op_in D n b with e | e | e | e
  · unfold opC at e
    split at e
    · omega
    · omega
  · have := (sg_in h).2.1; have := (sg_in e.2).2.1; omega
  · exact e.1
  · have := (sg_in h).2.1; have := (sg_in e.2).2.1; omega
theorem op_11 (h : sgB D n b 43 = true) : opC D n b = -11 := by
  unfold opC
  rw [if_pos h]
theorem op_0 (h1 : sgB D n b 42 = false) (h2 : sgB D n b 43 = false) (h3 : sgB D n b 45 = false) : opC D n b = 0 := by
  unfold opC
  rw [h1, h2, h3]
  rfl
theorem nil_of (h : ps.length + 2 ≤ 2) : ps = [] := List.eq_nil_of_length_eq_zero (by omega)
theorem part_no (hs : sgB D n b 40 = false) (hb : b ≤ n) (hnb : NB D n b) (hd : d ≤ 6) : PartOK D n b d := by
  refine ⟨parS D n b, fun M X lv _ h _ => R290p h hs, fun f hf cs w _ _ => c_pbad hs hf, fun b' hb' => ⟨?_, fun w => absurd w (by decide), fun w => absurd w (by decide)⟩⟩
  have hp : b' = nxD D n b ∧ ((paI D n b = -1 ∧ tK D n b = 2 ∧ nuV D n b ≤ 9999 ∧ 0 ≤ nuV D n b) ∨ paI D n b ≠ -1) := by
    unfold parS at hb'
    by_cases k : paI D n b = -1
    · rw [if_pos k, numS_l] at hb'
      by_cases k2 : tK D n b = 2
      · have := nuV_in k2
        rw [if_pos k2] at hb'
        by_cases k3 : nuV D n b < 0 ∨ 9999 < nuV D n b
        · rw [if_pos k3] at hb'; cases hb'
        · rw [if_neg k3] at hb'; cases hb'; exact ⟨rfl, Or.inl ⟨k, k2, by omega, by omega⟩⟩
      · rw [if_neg k2] at hb'; cases hb'
    · rw [if_neg k] at hb'; cases hb'; exact ⟨rfl, Or.inr k⟩
  obtain ⟨e1, e2⟩ := hp
  have hbn : b < n := by
    rcases e2 with e | e
    · exact (tk_dig e.2.1).1
    · rcases pa_in (D := D) (n := n) (b := b) with w | ⟨t, k1, x1, x2, w1, w2, w3⟩
      · exact absurd w e
      · exact (tk_lt (D := D) (n := n) (b := b) (by have := w3.1; omega)).1
  have hx := nx_in (D := D) hb
  have hn := nx_at (D := D) hb
  subst e1
  refine ⟨hx.2.2 hbn, hx.2.1, hn.2, [pcC D n b], [], ?_⟩
  rcases e2 with ⟨k, k2, k3, k4⟩ | k
  · have ec : pcC D n b = nuV D n b := by unfold pcC; rw [if_pos k]
    refine ⟨fun _ => ii (nuV D n b), fun x hx => absurd hx List.not_mem_nil, Nat.le_refl _, fun cs w _ _ => c_part hs hb' (hx.2.2 hbn), ?_, (ev_num k2 k3 hnb).le (by omega), ?_⟩
    · rw [ec]; exact VSt.num k4 (by omega)
    · rw [ec]
      constructor
      · intro w; exact absurd w (la_num k2)
      · intro w
        have : (-6 : Int) = nuV D n b := by simpa using w
        omega
  · rcases pa_in (D := D) (n := n) (b := b) with w | ⟨t, k1, x1, x2, w1, w2, w3⟩
    · exact absurd w k
    · have ec : pcC D n b = -1 - k1 := by unfold pcC; rw [if_neg k, w2]
      have hk := pa_le D n b
      refine ⟨fun pv => pv k1, fun x hx => absurd hx List.not_mem_nil, Nat.le_refl _, fun cs w _ _ => c_part hs hb' (hx.2.2 hbn), ?_, (ev_wrd (q := (t, k1, x1, x2)) w1 w3 hnb).le (by omega), ?_⟩
      · rw [ec]; exact VSt.prt (by omega) (by omega)
      · rw [ec]
        have hl := la_wrd (q := (t, k1, x1, x2)) w1 w3
        refine hl.trans ?_
        constructor
        · intro w
          have w : k1 = 5 := w
          subst w
          exact List.mem_cons_self
        · intro w
          have : (-6 : Int) = -1 - k1 := by simpa using w
          show k1 = 5
          omega
theorem part_de (hs : sgB D n b 40 = true) (hd : d = 6) : PartOK D n b d := by
  refine ⟨.inr (4, b), fun M X lv hl h h26 => ?_, fun f hf cs w _ _ => (by cases hf; exact c_deep hs hd), fun b' hb' => by cases hb'⟩
  obtain ⟨M1, a1, a2, a3⟩ := S46 (X := X) h (c := 4) (by omega)
  have a2 : RTP M1 D n (.inr (4, b)) := a2
  have h27 : M1 819 26 = ii d := (a3.2 26 (by omega)).trans h26
  have k0 : RTP (upM M1 819 26 (ii d + 1)) D n (.inr (4, b)) := a2.kp (fun k k1 k2 => up_d (by omega)) (by funext y; exact up_n (by decide))
  obtain ⟨M2, c1, c2, c3⟩ := S192 (X := X) k0
  have c2 : RTP M2 D n (.inr (4, b)) := c2
  obtain ⟨M3, e1, e2, e3⟩ := R288f (X := X) (lv := lv + 1) c2 (by omega)
  obtain ⟨M4, g1, g2, g3⟩ := S219 (X := X) e2 (c := 41) (by omega)
  have g2 : RTP M4 D n (.inr (4, b)) := g2
  have f4 := c3.tr (e3.tr g3)
  have h4 : M4 819 26 = ii d + 1 := by rw [f4.2 26 (by omega), up_s, if_pos rfl]
  refine ⟨upM M4 819 26 (ii d), ?_, g2.kp (fun k k1 k2 => up_d (by omega)) (by funext y; exact up_n (by decide)), ⟨fun b hb => ?_, fun k hk => ?_⟩⟩
  · rw [q290_0, i_40, S47 h (by omega), kb1, q290_6, i_0, bIT, sgR_l, hs, cond_true, h26, i_6, eqT (by omega), i_4, a1, kb0, q290_23, h27, c1, kb0, q290_37, blt40 (by omega), cond_true, e1, kb0, q290_41, i_41, g1, kb0, q290_47, h4, i_1, ii_add, ii_sub, Int.add_sub_cancel]
  · rw [show upM M4 819 26 (ii d) b = M4 b by funext y; exact up_n hb, f4.1 b hb, show upM M1 819 26 (ii d + 1) b = M1 b by funext y; exact up_n hb, a3.1 b hb]
  · by_cases k26 : k = 26
    · subst k26; rw [up_s, if_pos rfl, h26]
    · rw [up_d k26, f4.2 k hk, up_d k26, a3.2 k hk]
theorem part_pa (hs : sgB D n b 40 = true) (hd : d < 6) (hS : SumOK D n (nxD D n b) (d + 1)) : PartOK D n b d := by
  obtain ⟨s1, s2, s3, s4, s5, s6, s7⟩ := sg_in hs
  obtain ⟨P1, r1, r2, r3⟩ := hS
  have ref : RGo D n 290 [pR 13 819, p0] (3 * d + 2) b d (signS D n 41 P1) := by
    intro M X lv hl h h26
    have k0 : RTP (upM M 819 26 (ii d + 1)) D n (.inl b) := h.kp (fun k k1 k2 => up_d (by omega)) (by funext y; exact up_n (by decide))
    obtain ⟨M2, c1, c2, c3⟩ := S192 (X := X) k0
    have h2 : M2 819 26 = ii ((d + 1 : Nat) : Int) := by rw [c3.2 26 (by omega), up_s, if_pos rfl, i_1, ii_add]; rfl
    obtain ⟨M3, e1, e2, e3⟩ := r1 M2 X (lv + 1) (by omega) c2 h2
    obtain ⟨M4, g1, g2, g3⟩ := S219 (X := X) e2 (c := 41) (by omega)
    have f4 := c3.tr (e3.tr g3)
    have h4 : M4 819 26 = ii d + 1 := by rw [f4.2 26 (by omega), up_s, if_pos rfl]
    refine ⟨upM M4 819 26 (ii d), ?_, g2.kp (fun k k1 k2 => up_d (by omega)) (by funext y; exact up_n (by decide)), ⟨fun b hb => ?_, fun k hk => ?_⟩⟩
    · rw [q290_0, i_40, S47 h (by omega), kb1, q290_6, i_0, bIT, sgR_l, hs, cond_true, h26, i_6, eqF (by omega), q290_23, h26, c1, kb0, q290_37, blt40 (by omega), cond_true, e1, kb0, q290_41, i_41, g1, kb0, q290_47, h4, i_1, ii_add, ii_sub, Int.add_sub_cancel]
    · rw [show upM M4 819 26 (ii d) b = M4 b by funext y; exact up_n hb, f4.1 b hb]; funext y; exact up_n hb
    · by_cases k26 : k = 26
      · subst k26; rw [up_s, if_pos rfl, h26]
      · rw [up_d k26, f4.2 k hk, up_d k26]
  have opn : ∀ cs w : List Int, w.length ≤ 3 * d + 2 → CGo D n b 1 d cs w (nxD D n b) 1 (d + 1) cs (-20 :: w) := fun cs w hw => c_open hs hd (by omega)
  have tp : ∀ w : List Int, topL (-20 :: w) 1 := fun w x t e => by cases e; decide
  cases P1 with
  | inr f =>
    refine ⟨.inr f, ref, fun f' hf cs w hw _ => ?_, fun b' hb' => by cases hb'⟩
    cases hf
    exact (opn cs w hw).bad (r2 f rfl cs (-20 :: w) (by rw [List.length_cons]; omega) (tp w))
  | inl b2 =>
    obtain ⟨⟨g1, g2, g3, c1, ps, v, g4, g5, g6, g7, g8, g9⟩, g10, g11⟩ := r3 b2 rfl
    have g10 := g10 (by omega)
    obtain ⟨g11, g12⟩ := g11 rfl
    have ho := op_0 g10 g11 g12
    have go1 : ∀ cs w : List Int, w.length ≤ 3 * d + 2 → CGo D n b 1 d cs w b2 0 (d + 1) (cs ++ c1) (ps ++ (-20 :: w)) := fun cs w hw => (opn cs w hw).tr (g6 cs (-20 :: w) (by rw [List.length_cons]; omega) (tp w))
    cases hs2 : sgB D n b2 41 with
    | false =>
      have er : signS D n 41 (.inl b2) = .inr (1, b2) := by show (bif sgB D n b2 41 then _ else _) = _; rw [hs2]; rfl
      rw [er] at ref
      refine ⟨.inr (1, b2), ref, fun f' hf cs w hw _ => ?_, fun b' hb' => by cases hb'⟩
      cases hf
      exact (go1 cs w hw).bad (c_sbad ho (by omega) hs2)
    | true =>
      have er : signS D n 41 (.inl b2) = .inl (nxD D n b2) := by show (bif sgB D n b2 41 then _ else _) = _; rw [hs2]; rfl
      rw [er] at ref
      obtain ⟨u1, u2, u3, u4, u5, u6, u7⟩ := sg_in hs2
      refine ⟨.inl (nxD D n b2), ref, fun f' hf => (by cases hf), fun b' hb' => ?_⟩
      cases hb'
      refine ⟨⟨by omega, u6, u7, c1 ++ ps, [], v, fun x hx => absurd hx List.not_mem_nil, Nat.le_refl _, fun cs w hw ht => ?_, ?_, ev_par hs g8 hs2 g1 (by omega), ?_⟩, fun w => absurd w (by decide), fun w => absurd w (by decide)⟩
      · have hsh := c_shut (cs := cs ++ c1) (w := ps ++ (-20 :: w)) ho (d := d + 1) (by omega) hs2
        obtain ⟨e1, e2⟩ := set_ap (ps := ps) (w := -20 :: w) (k := 1) g4 (tp w)
        rw [e1, e2, List.append_assoc] at hsh
        exact (go1 cs w hw).tr hsh
      · rw [List.append_nil]
        exact g7.le (by omega)
      · rw [List.append_nil, ← g9]
        have cu := LAt.cut (D := D) (b := b) (b1 := b) (b2 := nxD D n b) (b' := nxD D n b2) (Nat.le_refl _) (by omega) (by omega) (sg_nl hs (by omega))
        have cv := LAt.cut (D := D) (b := nxD D n b) (b1 := b2) (b2 := nxD D n b2) (b' := nxD D n b2) (by omega) (by omega) (Nat.le_refl _) (sg_nl hs2 (by omega))
        have no : ∀ b, ¬ LAt D b b := fun b ⟨k, a1, a2, _⟩ => by omega
        rw [cu, cv]
        exact ⟨fun w => by rcases w with w | w | w
                           · exact absurd w (no _)
                           · exact w
                           · exact absurd w (no _), fun w => Or.inr (Or.inl w)⟩
theorem mem_op {x o : Int} {a b : List Int} (h : x ≠ o) : (x ∈ a ∨ x ∈ b) ↔ x ∈ a ++ b ++ [o] := by simp [h]
def TPre (D : Nat → Int) (n b d b1 : Nat) (c1 ps : List Int) (v : (Int → Int32) → Int32) : Prop :=
  b < b1 ∧ b1 ≤ n ∧ NB D n b1 ∧ (∀ x, x ∈ ps → 2 ≤ stg x) ∧ ps.length ≤ 1 ∧
  (∀ (M : Mem) (X : PX) (lv : Nat), lv ≤ 3 * d + 1 → RTP M D n (.inl b) → M 819 26 = ii d → ∃ M', ev true 289 lv 0 [pR 13 819] [] M X = ev true 289 lv 4 [pR 13 819] [] M' X ∧ RTP M' D n (.inl b1) ∧ FrP M M') ∧
  (∀ cs w, w.length ≤ 3 * d + 1 → topL w 2 → CGo D n b 1 d cs w b1 0 d (cs ++ c1) (ps ++ w)) ∧ VSt (c1 ++ ps) (3 * (6 - d) + 2) v ∧ EvT D n (3 * d + 1) b b1 v ∧ (LAt D b b1 ↔ (-6 : Int) ∈ c1 ++ ps)
theorem term_lp2 (hd : d ≤ 6) (hP : ∀ b2, b < b2 → b2 ≤ n → NB D n b2 → PartOK D n b2 d) : ∀ (m b1 : Nat) (c1 ps : List Int) (v : (Int → Int32) → Int32), n - b1 ≤ m → TPre D n b d b1 c1 ps v → TermOK D n b d := by
  intro m
  induction m with
  | zero =>
    intro b1 c1 ps v hm ⟨h1, h2, h3, h4, h5, h6, h7, h8, h9, h10⟩
    have hs : sgB D n b1 42 = false := by
      cases hs : sgB D n b1 42
      · rfl
      · have := (sg_in hs).1; omega
    refine ⟨.inl b1, fun M X lv hl h h26 => ?_, fun f hf => (by cases hf), fun b' hb' => ?_⟩
    · obtain ⟨M', a1, a2, a3⟩ := h6 M X lv hl h h26
      exact ⟨M', by rw [a1, q289_4, i_42, S47 a2 (by omega), kb1, q289_10, i_0, bIT, sgR_l, hs]; rfl, a2, a3⟩
    · cases hb'
      exact ⟨⟨h1, h2, h3, c1, ps, v, h4, by omega, h7, h8, h9.last hs h3, h10⟩, fun _ => hs, fun w => absurd w (by decide)⟩
  | succ m ih =>
    intro b1 c1 ps v hm hh
    have hh' := hh
    obtain ⟨h1, h2, h3, h4, h5, h6, h7, h8, h9, h10⟩ := hh'
    cases hs : sgB D n b1 42 with
    | false =>
      refine ⟨.inl b1, fun M X lv hl h h26 => ?_, fun f hf => (by cases hf), fun b' hb' => ?_⟩
      · obtain ⟨M', a1, a2, a3⟩ := h6 M X lv hl h h26
        exact ⟨M', by rw [a1, q289_4, i_42, S47 a2 (by omega), kb1, q289_10, i_0, bIT, sgR_l, hs]; rfl, a2, a3⟩
      · cases hb'
        exact ⟨⟨h1, h2, h3, c1, ps, v, h4, by omega, h7, h8, h9.last hs h3, h10⟩, fun _ => hs, fun w => absurd w (by decide)⟩
    | true =>
      obtain ⟨s1, s2, s3, s4, s5, s6, s7⟩ := sg_in hs
      obtain ⟨P2, r1, r2, r3⟩ := hP (nxD D n b1) (by omega) s6 s7
      have e13 : stg (-13) = 2 := by decide
      have ref : ∀ (M : Mem) (X : PX) (lv : Nat), lv ≤ 3 * d + 1 → RTP M D n (.inl b) → M 819 26 = ii d → ∃ M', ev true 289 lv 0 [pR 13 819] [] M X = ev true 289 lv 4 [pR 13 819] [] M' X ∧ RTP M' D n P2 ∧ FrP M M' := by
        intro M X lv hl h h26
        obtain ⟨M1, a1, a2, a3⟩ := h6 M X lv hl h h26
        obtain ⟨M2, c1, c2, c3⟩ := S192 (X := X) a2
        obtain ⟨M3, e1, e2, e3⟩ := r1 M2 X (lv + 1) (by omega) c2 (by rw [c3.2 26 (by omega), a3.2 26 (by omega)]; exact h26)
        exact ⟨M3, by rw [a1, q289_4, i_42, S47 a2 (by omega), kb1, q289_10, i_0, bIT, sgR_l, hs, cond_true, c1, kb0, q289_17, blt40 (by omega), cond_true, e1, kb0, q289_21], e2, a3.tr (c3.tr e3)⟩
      have go1 : ∀ cs w : List Int, w.length ≤ 3 * d + 1 → topL w 2 → CGo D n b 1 d cs w (nxD D n b1) 1 d (cs ++ (c1 ++ ps)) (-13 :: w) := by
        intro cs w hw ht
        obtain ⟨e1, e2⟩ := set_ap (ps := ps) (w := w) (k := 2) h4 ht
        have ho := c_op (cs := cs ++ c1) (w := ps ++ w) (d := d) (op_13 hs) (by omega) (by rw [e13, e2]; omega)
        rw [e13, e1, e2, List.append_assoc] at ho
        exact (h7 cs w hw ht).tr ho
      have tp : ∀ w : List Int, topL (-13 :: w) 3 := fun w x t e => by cases e; decide
      cases P2 with
      | inr f =>
        refine ⟨.inr f, fun M X lv hl h h26 => ?_, fun f' hf cs w hw ht => ?_, fun b' hb' => by cases hb'⟩
        · obtain ⟨M', a1, a2, a3⟩ := ref M X lv hl h h26
          exact ⟨M', a1.trans (R289f4 a2), a2, a3⟩
        · cases hf
          exact (go1 cs w hw ht).bad (r2 f rfl _ (-13 :: w) (by rw [List.length_cons]; omega) (tp w))
      | inl b3 =>
        obtain ⟨⟨g1, g2, g3, cp, pp, v2, g4, g5, g6, g7, g8, g9⟩, -, -⟩ := r3 b3 rfl
        have hpp := nil_of g5
        subst hpp
        rw [List.append_nil] at g7 g9
        refine ih b3 (c1 ++ ps ++ cp) [-13] (fun pv => tog (-13) (v pv) (v2 pv)) (by omega) ⟨by omega, g2, g3, fun x hx => ?_, Nat.le_refl _, ref, fun cs w hw ht => ?_, ?_, h9.op (by omega) hs g8 g1, ?_⟩
        · have : x = -13 := by simpa using hx
          subst this
          decide
        · have := (go1 cs w hw ht).tr (g6 _ (-13 :: w) (by rw [List.length_cons]; omega) (tp w))
          rw [List.append_assoc] at this
          exact this
        · exact VSt.op h8 g7 (by omega) (by omega)
        · have cu := LAt.cut (D := D) (b := b) (b1 := b1) (b2 := nxD D n b1) (b' := b3) (by omega) (by omega) (by omega) (sg_nl hs (by omega))
          rw [cu, h10, g9]
          exact mem_op (by decide)
theorem term_ok (hd : d ≤ 6) (hb : b ≤ n) (hnb : NB D n b) (hP : ∀ b1, b ≤ b1 → b1 ≤ n → NB D n b1 → PartOK D n b1 d) : TermOK D n b d := by
  obtain ⟨P1, r1, r2, r3⟩ := hP b (Nat.le_refl _) hb hnb
  have ref : ∀ (M : Mem) (X : PX) (lv : Nat), lv ≤ 3 * d + 1 → RTP M D n (.inl b) → M 819 26 = ii d → ∃ M', ev true 289 lv 0 [pR 13 819] [] M X = ev true 289 lv 4 [pR 13 819] [] M' X ∧ RTP M' D n P1 ∧ FrP M M' := by
    intro M X lv hl h h26
    obtain ⟨M1, a1, a2, a3⟩ := r1 M X (lv + 1) (by omega) h h26
    exact ⟨M1, by rw [q289_0, blt40 (by omega), cond_true, a1, kb0], a2, a3⟩
  have tp : ∀ w : List Int, topL w 2 → topL w 3 := fun w h x t e => by have := h x t e; omega
  cases P1 with
  | inr f =>
    refine ⟨.inr f, fun M X lv hl h h26 => ?_, fun f' hf cs w hw ht => ?_, fun b' hb' => by cases hb'⟩
    · obtain ⟨M', a1, a2, a3⟩ := ref M X lv hl h h26
      exact ⟨M', a1.trans (R289f4 a2), a2, a3⟩
    · cases hf
      exact r2 f rfl cs w (by omega) (tp w ht)
  | inl b1 =>
    obtain ⟨⟨g1, g2, g3, cp, pp, v, g4, g5, g6, g7, g8, g9⟩, -, -⟩ := r3 b1 rfl
    have hpp := nil_of g5
    subst hpp
    have pre : TPre D n b d b1 cp [] v := ⟨g1, g2, g3, fun x hx => absurd hx List.not_mem_nil, Nat.zero_le _, ref, fun cs w hw ht => g6 cs w (by omega) (tp w ht), g7.le (by omega), EvT.of (by omega) g8, g9⟩
    exact term_lp2 hd (fun b2 k1 k2 k3 => hP b2 (by omega) k2 k3) (n - b1) b1 cp [] v (Nat.le_refl _) pre
end SUMO
