/-! a question is read, both sides; what it says of a place: the class -/
section QTO
set_option maxRecDepth 100000
variable {z y a c lo hi N x T j o : Int} {M M' M0 M1 M2 : Mem} {X : PX} {n m i t b b' b1 b2 d k e lv L : Nat} {p : Int} {D : Nat → Int} {P : PS} {cs w ps c1 : List Int} {q : Int × Nat} {A : AT} {v : (Int → Int32) → Bool} {G : Int → Int}
noncomputable def mnB (D : Nat → Int) (n : Nat) : Bool := wdB D n (bgT D n 0) 9
noncomputable def qP1 (D : Nat → Int) (n : Nat) : PS := bif mnB D n then .inl (nxD D n (bgT D n 0)) else wrdS D n 5 (.inl (bgT D n 0))
theorem q1_c (hn : n ≤ 200) (hD : ∀ i, i < n → 0 ≤ D i ∧ D i < 256) (h3 : ∀ i, i < n → M 3 i = ii (D i)) : ∃ M', ev true 277 0 0 [pR 4 39, pR 2 1, pI (ii n), p0, p0] [] M X = QLo (ii n) 1 (0 : Nat) M' X ∧ CTP M' D n (qP1 D n) ∧ FV M' 40 [] [] ∧ M' 39 2 = ii (0 : Nat) ∧ M' 39 3 = ii (0 : Nat) ∧ M' 39 1 = bI (mnB D n) ∧ (∀ b, b ≠ 1 → b ≠ 39 → b ≠ 40 → b ≠ 44 → b ≠ 48 → M' b = M b) ∧ M' 1 1 = ii 0 := by
  obtain ⟨M1, a1, a2, a3⟩ := S18 (M := M) (X := X) (F := 40)
  obtain ⟨Mu, hMu⟩ : ∃ Mu, Mu = upM (upM M1 39 2 (ii 0)) 39 3 (ii 0) := ⟨_, rfl⟩
  have fu : ∀ b, b ≠ 39 → Mu b = M1 b := fun b hb => by rw [hMu]; funext y; rw [up_n hb, up_n hb]
  have a2u : FV Mu 40 [] [] := by rw [hMu]; exact a2.u39.u39
  obtain ⟨M2, b1, b2, b3, b4, b5⟩ := S142 (M := Mu) (X := X) (D := D) (n := n) (fun i hi => ⟨by rw [fu 3 (by decide), a3.1 3 (by decide) (by decide) (by decide)]; exact h3 i hi, hD i hi⟩) (by omega)
  obtain ⟨Mv, hMv⟩ : ∃ Mv, Mv = upM M2 39 1 (bI (mnB D n)) := ⟨_, rfl⟩
  have fv : ∀ b, b ≠ 39 → Mv b = M2 b := fun b hb => by rw [hMv]; funext y; exact up_n hb
  have b2v : CTP Mv D n (.inl (bgT D n 0)) := by rw [hMv]; exact b2.u39
  have m1 : Mv 39 1 = bI (mnB D n) := by rw [hMv, up_s, if_pos rfl]
  obtain ⟨M3, c1, c2, c3⟩ : ∃ M3, ev true 277 0 29 [pR 4 39, pR 2 1, pI (ii n), p0, p0] [pI (bI (mnB D n)), pR 4 39] M2 X = QLo (ii n) 1 (0 : Nat) M3 X ∧ CTP M3 D n (qP1 D n) ∧ FrC Mv M3 := by
    have fin : ∀ t M3, ev true 248 0 0 [pR 2 1, pR 18 t] [] Mv X = some (.inl none, M3, X) → ev true 277 0 47 [pR 4 39, pR 2 1, pI (ii n), p0, p0] [pR 18 t, pR 2 1] Mv X = QLo (ii n) 1 (0 : Nat) M3 X := fun t M3 ht => by
      rw [q277_47, ht, kb0, q277_50, i_1]
      rfl
    rw [q277_29, rkT, up_s, if_pos rfl, i_0, bIT, ← hMv]
    unfold qP1
    cases hm : mnB D n with
    | true =>
      obtain ⟨M3, k1, k2, k3⟩ := S248 (X := X) b2v 9
      have k2 : CTP M3 D n (bif wdB D n (bgT D n 0) 9 then .inl (nxD D n (bgT D n 0)) else .inr (1, bgT D n 0)) := k2
      have hm : wdB D n (bgT D n 0) 9 = true := hm
      rw [hm] at k2
      exact ⟨M3, by rw [cond_true]; exact fin 9 M3 k1, k2, k3⟩
    | false =>
      obtain ⟨M3, k1, k2, k3⟩ := S248 (X := X) b2v 5
      exact ⟨M3, by rw [cond_false]; exact fin 5 M3 k1, k2, k3⟩
  have e39 : M3 39 = Mv 39 := c3.1 39 (by decide)
  have g39 : M2 39 = Mu 39 := b3 39 (by decide)
  refine ⟨M3, ?_, c2, ?_, ?_, ?_, by rw [e39, m1], fun b h1 h39 h40 h44 h48 => ?_, ?_⟩
  · rw [q277_0, a1, kb0, q277_7, i_0, ← hMu, b1, kb0, q277_22, S230k b2.1 b2.2.1, kb1]
    exact c1
  · exact a2u.at (by rw [c3.1 40 (by decide), fv 40 (by decide), b3 40 (by decide)]) (by rw [c3.1 44 (by decide), fv 44 (by decide), b3 44 (by decide)]) (by rw [c3.1 48 (by decide), fv 48 (by decide), b3 48 (by decide)])
  · rw [e39, hMv, up_d (by decide), g39, hMu, up_d (by decide), up_s, if_pos rfl]; rfl
  · rw [e39, hMv, up_d (by decide), g39, hMu, up_s, if_pos rfl]; rfl
  · rw [c3.1 b h1, fv b h39, b3 b h1, fu b h39, a3.1 b h40 h44 h48]
  · rw [c3.2 1 (by omega), fv 1 (by decide)]; exact b4
theorem q1_r {x3 : Int32} (hn : n ≤ 200) (hD : ∀ i, i < n → 0 ≤ D i ∧ D i < 256) (h3 : ∀ i, i < n → M 827 i = ii (D i)) : ∃ M', ev true 299 0 0 [pR 13 819, pI (ii n), pI x3, p0] [] M X = ev true 299 0 39 [pR 13 819, pI (ii n), pI x3, p0] [] M' X ∧ RTP M' D n (qP1 D n) ∧ (∀ b, b ≠ 819 → M' b = M b) ∧ M' 819 26 = ii (0 : Nat) ∧ M' 819 27 = x3 ∧ (∀ k, k < 18 ∨ k = 25 ∨ 27 < k → M' 819 k = M 819 k) := by
  have fu : ∀ b, b ≠ 819 → upM M 819 27 x3 b = M b := fun b hb => by funext y; exact up_n hb
  obtain ⟨M1, a1, a2, a3, a4, a5⟩ := S191 (M := upM M 819 27 x3) (X := X) (D := D) (n := n) (fun i hi => ⟨by rw [fu 827 (by decide)]; exact h3 i hi, hD i hi⟩) (by omega)
  obtain ⟨M3, c1, c2, c3⟩ : ∃ M3, ev true 299 0 10 [pR 13 819, pI (ii n), pI x3, p0] [] M1 X = ev true 299 0 39 [pR 13 819, pI (ii n), pI x3, p0] [] M3 X ∧ RTP M3 D n (qP1 D n) ∧ FrP M1 M3 := by
    rw [q299_10, S238 a2, kb1, q299_17, i_0, bIT, wdR_l]
    unfold qP1
    show ∃ M3, (bif mnB D n then _ else _) = _ ∧ _
    cases hm : mnB D n with
    | true =>
      obtain ⟨M3, k1, k2, k3⟩ := S192 (X := X) a2
      exact ⟨M3, by rw [cond_true, q299_35, k1, kb0], k2, k3⟩
    | false =>
      rw [cond_false, S238 a2, kb1, q299_27, i_0, bIT, wdR_l]
      show ∃ M3, _ ∧ RTP M3 D n (bif wdB D n (bgT D n 0) 5 then .inl (nxD D n (bgT D n 0)) else .inr (1, bgT D n 0)) ∧ _
      cases hw : wdB D n (bgT D n 0) 5 with
      | true =>
        obtain ⟨M3, k1, k2, k3⟩ := S192 (X := X) a2
        exact ⟨M3, by rw [cond_true, q299_35, k1, kb0], k2, k3⟩
      | false =>
        obtain ⟨M2, j1, j2, j3⟩ := S46 (X := X) a2 (c := 1) (by omega)
        obtain ⟨M3, k1, k2, k3⟩ := S192 (X := X) j2
        exact ⟨M3, by rw [cond_false, i_1, j1, kb0, q299_35, k1, kb0], k2, j3.tr k3⟩
  refine ⟨M3, by rw [q299_0, a1, kb0, c1], c2, fun b hb => by rw [c3.1 b hb, a3 b hb, fu b hb], by rw [c3.2 26 (by omega)]; exact a4, by rw [c3.2 27 (by omega), a5 27 (by omega), up_s, if_pos rfl], fun k hk => ?_⟩
  rw [c3.2 k (by omega), a5 k (by omega), up_d (by omega)]
def QstO (D : Nat → Int) (n : Nat) (P : PS) (v : (Int → Int32) → Bool) (cs : List Int) : Prop :=
  (∀ (M : Mem) (X : PX), (∀ i, i < n → M 3 i = ii (D i)) → ∃ M', ev true 277 0 0 [pR 4 39, pR 2 1, pI (ii n), p0, p0] [] M X = some (.inl none, M', X) ∧ CTP M' D n P ∧ (∀ b, b ≠ 1 → b ≠ 39 → b ≠ 40 → b ≠ 44 → b ≠ 48 → M' b = M b) ∧ M' 1 1 = ii 0 ∧ M' 39 1 = bI (mnB D n) ∧ (iF P → FV M' 40 cs [])) ∧
  (∀ (M : Mem) (X : PX) (A : AT) (T p : Int), (∀ i, i < n → M 827 i = ii (D i)) → WR M A T → (0 ≤ p ∧ p < A 0 0) → ∃ M' x, ev true 299 0 0 [pR 13 819, pI (ii n), pI (ii p), p0] [] M X = some (.inl (some (pI (bI x))), M', X) ∧ RTP M' D n P ∧ (∀ b, b ≠ 819 → M' b = M b) ∧ (∀ k, k < 18 ∨ k = 25 ∨ 27 < k → M' 819 k = M 819 k) ∧ (iF P → x = v (pvP A p))) ∧
  (iF P → VSt cs 22 (fun pv => bI (v pv)) ∧ (mnB D n = false → wdB D n (bgT D n 0) 5 = true))
theorem R299e (h : RTP M D n (.inr q)) {r : Bool} {z1 z3 : PV} {x2 : Int32} : ev true 299 0 43 [pR 13 819, z1, pI x2, z3] [pI (bI r)] M X = some (.inl (some (pI (bI r))), M, X) := by
  obtain ⟨f, pp⟩ := q
  have g1 := h.2.1
  have g2 := h.2.2.1
  rw [q299_43, g1, i_0, eqF (by omega), q299_63, rkT]
theorem ask_text (hn : n ≤ 200) (hD : ∀ i, i < n → 0 ≤ D i ∧ D i < 256) : ∃ P v cs, QstO D n P v cs := by
  have hbg := bg_in (D := D) (Nat.zero_le n)
  cases hP : qP1 D n with
  | inr q =>
    refine ⟨.inr q, fun _ => true, [], fun M X h3 => ?_, fun M X A T p h3 hw hp => ?_, fun w => niF w⟩
    · obtain ⟨M1, a1, a2, a3, a4, a5, a6, a7, a8⟩ := q1_c (M := M) (X := X) hn hD h3
      rw [hP] at a2
      obtain ⟨M2, b1, b2, b3⟩ := Q_end (X := X) (x2 := ii n) (x3 := ii 1) (tk := 0) a2 a3 (by show 0 + 0 ≤ 200; omega) (by omega)
      exact ⟨M2, a1.trans b1, b2, fun b h1 h39 h40 h44 h48 => (b3.1 b h1 h39 h40 h44 h48).trans (a7 b h1 h39 h40 h44 h48), (b3.2.1 1 (by omega)).trans a8, (b3.2.2.2 1 (by omega) (by omega)).trans a6, fun w => niF w⟩
    · obtain ⟨M1, a1, a2, a3, a4, a5, a6⟩ := q1_r (M := M) (X := X) (x3 := ii p) hn hD h3
      rw [hP] at a2
      obtain ⟨M2, r, b1, b2, b3⟩ := R293f (lv := 0) (X := X) (A := A) (T := T) (p := p) a2 ⟨WR_k hw (a3 820 (by decide)), hp, a5⟩ (by omega)
      exact ⟨M2, r, by rw [a1, q299_39, b1, kb1, R299e b2], b2, fun b hb => (b3.1 b hb).trans (a3 b hb), fun k hk => by rw [b3.2 k (by omega), a6 k hk], fun w => niF w⟩
  | inl b1 =>
    have hw9 : b1 = nxD D n (bgT D n 0) ∧ bgT D n 0 + 4 ≤ b1 ∧ b1 ≤ n ∧ (mnB D n = false → wdB D n (bgT D n 0) 5 = true) := by
      have key : ∀ t, 4 ≤ sln t → wdB D n (bgT D n 0) t = true → bgT D n 0 + 4 ≤ nxD D n (bgT D n 0) := fun t ht hw => by
        obtain ⟨w1, w2, w3⟩ := wdB_t.1 hw
        have := (nx_at (D := D) (n := n) hbg.2.1).1.1
        omega
      have hx := nx_in (D := D) hbg.2.1
      unfold qP1 at hP
      cases hm : mnB D n with
      | true =>
        rw [hm] at hP
        cases hP
        exact ⟨rfl, key 9 (by decide +kernel) hm, hx.2.1, fun w => by cases w⟩
      | false =>
        rw [hm] at hP
        have hP : (bif wdB D n (bgT D n 0) 5 then (.inl (nxD D n (bgT D n 0)) : PS) else .inr (1, bgT D n 0)) = .inl b1 := hP
        cases hw : wdB D n (bgT D n 0) 5 with
        | true => rw [hw] at hP; cases hP; exact ⟨rfl, key 5 (by decide +kernel) hw, hx.2.1, fun _ => rfl⟩
        | false => rw [hw] at hP; cases hP
    obtain ⟨e1, e2, e3, e4⟩ := hw9
    have hnb : NB D n b1 := by rw [e1]; exact (nx_at (D := D) hbg.2.1).2
    obtain ⟨P2, v, r1, r2, r3⟩ := test_at (D := D) hn e3 hnb
    have tp : topL [] 1 := fun x t e => by cases e
    have ref : ∀ (M : Mem) (X : PX) (A : AT) (T p : Int), (∀ i, i < n → M 827 i = ii (D i)) → WR M A T → (0 ≤ p ∧ p < A 0 0) → ∃ M' x, ev true 299 0 0 [pR 13 819, pI (ii n), pI (ii p), p0] [] M X = ev true 299 0 43 [pR 13 819, pI (ii n), pI (ii p), p0] [pI (bI x)] M' X ∧ RTP M' D n P2 ∧ (∀ b, b ≠ 819 → M' b = M b) ∧ (∀ k, k < 18 ∨ k = 25 ∨ 27 < k → M' 819 k = M 819 k) ∧ (iF P2 → x = v (pvP A p)) := by
      intro M X A T p h3 hw hp
      obtain ⟨M1, a1, a2, a3, a4, a5, a6⟩ := q1_r (M := M) (X := X) (x3 := ii p) hn hD h3
      rw [hP] at a2
      obtain ⟨M2, x, b1, b2, b3, b4⟩ := r1 M1 X A T p 0 (by omega) a2 ⟨WR_k hw (a3 820 (by decide)), hp, a5⟩ a4
      exact ⟨M2, x, by rw [a1, q299_39, b1, kb1], b2, fun b hb => (b3.1 b hb).trans (a3 b hb), fun k hk => by rw [b3.2 k (by omega), a6 k hk], b4⟩
    have cls : ∀ (M : Mem) (X : PX), (∀ i, i < n → M 3 i = ii (D i)) → ∃ M', ev true 277 0 0 [pR 4 39, pR 2 1, pI (ii n), p0, p0] [] M X = QLo (ii n) 1 (0 : Nat) M' X ∧ CTP M' D n (.inl b1) ∧ FV M' 40 [] [] ∧ M' 39 2 = ii (0 : Nat) ∧ M' 39 3 = ii (0 : Nat) ∧ M' 39 1 = bI (mnB D n) ∧ (∀ b, b ≠ 1 → b ≠ 39 → b ≠ 40 → b ≠ 44 → b ≠ 48 → M' b = M b) ∧ M' 1 1 = ii 0 := by
      intro M X h3
      have := q1_c (M := M) (X := X) hn hD h3
      rw [hP] at this
      exact this
    have bad : ∀ q, (∀ nn nb cs w, nn + nb = 0 → w.length ≤ 3 * 0 + 0 → topL w 1 → QBad D n b1 1 nn nb cs w q) → ∀ (M : Mem) (X : PX), (∀ i, i < n → M 3 i = ii (D i)) → ∃ M', ev true 277 0 0 [pR 4 39, pR 2 1, pI (ii n), p0, p0] [] M X = some (.inl none, M', X) ∧ CTP M' D n (.inr q) ∧ (∀ b, b ≠ 1 → b ≠ 39 → b ≠ 40 → b ≠ 44 → b ≠ 48 → M' b = M b) ∧ M' 1 1 = ii 0 ∧ M' 39 1 = bI (mnB D n) ∧ (iF (.inr q) → FV M' 40 [] []) := by
      intro q hq M X h3
      obtain ⟨M1, a1, a2, a3, a4, a5, a6, a7, a8⟩ := cls M X h3
      obtain ⟨M2, b1, b2, b3⟩ := hq 0 0 [] [] rfl (Nat.zero_le _) tp M1 X (ii n) 0 (by omega) a2 a3 a4 a5 (by show 0 + 0 + 4 ≤ _; omega)
      exact ⟨M2, a1.trans b1, b2, fun b h1 h39 h40 h44 h48 => (b3.1 b h1 h39 h40 h44 h48).trans (a7 b h1 h39 h40 h44 h48), (b3.2.1 1 (by omega)).trans a8, (b3.2.2.2 1 (by omega) (by omega)).trans a6, fun w => niF w⟩
    cases P2 with
    | inr q =>
      refine ⟨.inr q, v, [], bad q (r2 q rfl), fun M X A T p h3 hw hp => ?_, fun w => niF w⟩
      obtain ⟨M', x, a1, a2, a3, a4, a5⟩ := ref M X A T p h3 hw hp
      exact ⟨M', x, by rw [a1, R299e a2], a2, a3, a4, fun w => niF w⟩
    | inl b2 =>
      obtain ⟨g1, g2, g3, g0, g11, c1, ps, g4, g5, g6, g7⟩ := r3 b2 rfl
      have g11 := g11 rfl
      by_cases hk : tK D n b2 = 0
      · refine ⟨.inl b2, v, c1 ++ ps, fun M X h3 => ?_, fun M X A T p h3 hw hp => ?_, fun _ => ⟨g7, e4⟩⟩
        · obtain ⟨M1, a1, a2, a3, a4, a5, a6, a7, a8⟩ := cls M X h3
          obtain ⟨M2, tk, b1, b2', b3, b4, b5, b6, b7, b8⟩ := g6 0 0 [] [] rfl (Nat.zero_le _) tp M1 X (ii n) 0 (by omega) a2 a3 a4 a5 (by show 0 + 0 + 4 ≤ _; omega)
          obtain ⟨M3, k1, k2, k3, k4⟩ := q_last (X := X) (x2 := ii n) hn g0 g11 hk b1 b3 b4 b5 b7
          obtain ⟨s1, s2⟩ := set_ap (ps := ps) (w := []) (k := 1) g4 (fun x t e => by cases e)
          rw [s1, s2, List.nil_append] at k3
          have fr := b8.tr k4
          exact ⟨M3, a1.trans (b2'.trans k1), k2, fun b h1 h39 h40 h44 h48 => (fr.1 b h1 h39 h40 h44 h48).trans (a7 b h1 h39 h40 h44 h48), (fr.2.1 1 (by omega)).trans a8, (fr.2.2.2 1 (by omega) (by omega)).trans a6, fun _ => k3⟩
        · obtain ⟨M', x, a1, a2, a3, a4, a5⟩ := ref M X A T p h3 hw hp
          have e23 := a2.2.2.2.2.2.2
          have e20 := a2.2.2.2.2.2.1
          exact ⟨M', x, by rw [a1, q299_43, e23, i_0, eqT rfl, e20, hk, eqT rfl, q299_63, rkT], a2, a3, a4, a5⟩
      · refine ⟨.inr (1, b2), v, [], bad (1, b2) fun nn nb cs w q1 q2 q3 => ?_, fun M X A T p h3 hw hp => ?_, fun w => niF w⟩
        · have : nb = 0 := by omega
          subst this
          exact (g6 nn 0 cs w q1 q2 q3).bad (q_lbad hn g0 g11 hk)
        · obtain ⟨M', x, a1, a2, a3, a4, a5⟩ := ref M X A T p h3 hw hp
          have e23 := a2.2.2.2.2.2.2
          have e20 := a2.2.2.2.2.2.1
          have hki := tk_in (D := D) (n := n) b2
          obtain ⟨M2, b1, b2', b3⟩ := S46 (X := X) a2 (c := 1) (by omega)
          exact ⟨M2, x, by rw [a1, q299_43, e23, i_0, eqT rfl, e20, eqF (by omega), i_1, b1, kb0, q299_63, rkT], b2', fun b hb => (b3.1 b hb).trans (a3 b hb), fun k hk => by rw [b3.2 k (by omega), a4 k hk], fun w => niF w⟩
theorem S66l (hp : 0 ≤ p ∧ p < 1000) (hk : (k : Int) ≤ rl t) (hk2 : k ≤ 100) (hg : ∀ i : Nat, i < k → cl M t i = ii (G i) ∧ 0 ≤ G i ∧ G i < 1000) : ∀ (m i : Nat), i + m = k → ev true 66 0 2 [pI (ii p), pR 8 t, pI (ii k), pI (ii i)] [] M X = some (.inl (some (pI (ii (fnd G p m i)))), M, X) := by
  intro m
  induction m with
  | zero =>
    intro i h1
    rw [q66_2, ltF (by omega), ii_m1]
    rfl
  | succ m ih =>
    intro i h1
    obtain ⟨g1, g2, g3⟩ := hg i (by omega)
    have hi := ih (i + 1) (by omega)
    rw [q66_2, ltT (by omega), S12 (by omega) (by omega), kb1, q66_12, g1, ieq (by omega)]
    unfold fnd
    by_cases c : G i = p
    · rw [if_pos c, if_pos c]
    · rw [if_neg c, if_neg c, i_1, ii_add]
      exact hi
theorem r41 : rl 41 = 8 := by unfold rl; rw [show ln (41 + 1) = 8 by decide +kernel]; rfl
theorem r45 : rl 45 = 64 := by unfold rl; rw [show ln (45 + 1) = 64 by decide +kernel]; rfl
theorem S11p {v : Int32} (h : 0 ≤ z ∧ z < 8) : ev true 11 0 0 [pR 8 41, pI (ii z), pI v] [] M X = some (.inl none, sc M 41 z v, X) := S11 h.1 (by rw [r41]; exact h.2)
/-- what a question says of a place: the class -/
theorem S206 (hp : PLv M 49 A) (hs : STv M 83 A) (hi : INV A T) (hf : FV M 40 cs []) (hv : VSt cs 22 (fun pv => bI (v pv))) (h : 0 ≤ p ∧ p < A 0 0) : ∃ M', ev true 206 0 0 [pR 4 39, pI (ii p), pR 5 49, pR 6 83, p0] [] M X = some (.inl (some (pI (bI (v (pvP A p))))), M', X) ∧ ∀ b, b ≠ 42 → b ≠ 46 → M' b = M b := by
  have g := hi.1
  have kp : ∀ (Mk : Mem), (∀ b, b ≠ 42 → Mk b = M b) → PLv Mk 49 A ∧ STv Mk 83 A := fun Mk hk => ⟨PLv_k hp (fun b b1 b2 _ _ => hk b (by omega)) SP.rf, STv_k hs (fun b b1 b2 => hk b (by omega)) rfl⟩
  have rg : ∀ (Mk : Mem), (∀ b, b ≠ 42 → Mk b = M b) → ∃ tu, RVt Mk 84 (A 0 0) A tu := fun Mk hk => (kp Mk hk).2.2.1
  have fs : ∀ (Mk : Mem) (z : Int) (x : Int32), (∀ b, b ≠ 42 → Mk b = M b) → ∀ b, b ≠ 42 → sc Mk 41 z x b = M b := fun Mk z x hk b hb => by
    rw [← hk b hb]
    funext y
    exact sc_n hb
  obtain ⟨M1, e1⟩ : ∃ M1, M1 = sc M 41 0 (ii p) := ⟨_, rfl⟩
  have f1 : ∀ b, b ≠ 42 → M1 b = M b := by rw [e1]; exact fs M 0 _ (fun _ _ => rfl)
  obtain ⟨t1, k1⟩ := rg M1 f1
  obtain ⟨M2, e2⟩ : ∃ M2, M2 = sc M1 41 1 (ii (A 20 p)) := ⟨_, rfl⟩
  have f2 : ∀ b, b ≠ 42 → M2 b = M b := by rw [e2]; exact fs M1 1 _ f1
  obtain ⟨t2, k2⟩ := rg M2 f2
  obtain ⟨M3, e3⟩ : ∃ M3, M3 = sc M2 41 2 (ii (A 21 p)) := ⟨_, rfl⟩
  have f3 : ∀ b, b ≠ 42 → M3 b = M b := by rw [e3]; exact fs M2 2 _ f2
  obtain ⟨t3, k3⟩ := rg M3 f3
  obtain ⟨M4, e4⟩ : ∃ M4, M4 = sc M3 41 3 (ii (A 22 p)) := ⟨_, rfl⟩
  have f4 : ∀ b, b ≠ 42 → M4 b = M b := by rw [e4]; exact fs M3 3 _ f3
  obtain ⟨M5, e5⟩ : ∃ M5, M5 = sc M4 41 4 (ii (if A 20 p = -1 then -1 else A 0 5 - A 23 p)) := ⟨_, rfl⟩
  have f5 : ∀ b, b ≠ 42 → M5 b = M b := by rw [e5]; exact fs M4 4 _ f4
  obtain ⟨t5, k5⟩ := rg M5 f5
  obtain ⟨M6, e6⟩ : ∃ M6, M6 = sc M5 41 5 (ii (A 25 p)) := ⟨_, rfl⟩
  have f6 : ∀ b, b ≠ 42 → M6 b = M b := by rw [e6]; exact fs M5 5 _ f5
  obtain ⟨M7, e7⟩ : ∃ M7, M7 = sc M6 41 6 (ii (fnd (A 30) p (A 0 1).toNat 0)) := ⟨_, rfl⟩
  have f7 : ∀ b, b ≠ 42 → M7 b = M b := by rw [e7]; exact fs M6 6 _ f6
  obtain ⟨M8, e8⟩ : ∃ M8, M8 = sc M7 41 7 (ii (fnd (A 40) p (A 0 3).toNat 0)) := ⟨_, rfl⟩
  have f8 : ∀ b, b ≠ 42 → M8 b = M b := by rw [e8]; exact fs M7 7 _ f7
  have rl84 := stl83.1
  have ex : ev true 152 0 0 [pR 5 49, pI (ii p)] [] M6 X = some (.inl (some (pI (ii (fnd (A 30) p (A 0 1).toNat 0)))), M6, X) := by
    have h6 := (kp M6 f6).1
    have hl : rl 50 = 6 := pll49.1
    have h1 := S66l (M := M6) (X := X) (t := 50) (G := A 30) (k := (A 0 1).toNat) (p := p) (by omega) (by omega) (by omega) (fun i hi9 => by
      have ix := hi.2.1 i (by omega) (by omega)
      exact ⟨h6.2.2.2.2.2.2.1 i (by omega) (by omega), by omega, by omega⟩) (A 0 1).toNat 0 (by omega)
    have e1 : M6 49 1 = ii ((A 0 1).toNat : Nat) := by rw [h6.2.1]; congr 1; omega
    rw [q152_0, e1]
    show (ev true 66 0 0 [pI (ii p), pR 8 50, pI (ii ((A 0 1).toNat : Nat)), p0] [] M6 X).bind _ = _
    rw [q66_0, i_0]
    have h1 : ev true 66 0 2 [pI (ii p), pR 8 50, pI (ii ((A 0 1).toNat : Nat)), pI (ii 0)] [] M6 X = _ := h1
    rw [h1, kb1, q152_12]
  have sx : ev true 153 0 0 [pR 5 49, pI (ii p)] [] M7 X = some (.inl (some (pI (ii (fnd (A 40) p (A 0 3).toNat 0)))), M7, X) := by
    have h7 := (kp M7 f7).1
    have hl : rl 58 = 6 := pll49.2.2.2.2.1
    have h1 := S66l (M := M7) (X := X) (t := 58) (G := A 40) (k := (A 0 3).toNat) (p := p) (by omega) (by omega) (by omega) (fun i hi9 => by
      have ix := hi.2.2.2.1 i (by omega) (by omega)
      exact ⟨h7.2.2.2.2.2.2.2.2.2.2.1 i (by omega) (by omega), by omega, by omega⟩) (A 0 3).toNat 0 (by omega)
    have e1 : M7 49 7 = ii ((A 0 3).toNat : Nat) := by rw [h7.2.2.2.1]; congr 1; omega
    rw [q153_0, e1]
    show (ev true 66 0 0 [pI (ii p), pR 8 58, pI (ii ((A 0 3).toNat : Nat)), p0] [] M7 X).bind _ = _
    rw [q66_0, i_0]
    have h1 : ev true 66 0 2 [pI (ii p), pR 8 58, pI (ii ((A 0 3).toNat : Nat)), pI (ii 0)] [] M7 X = _ := h1
    rw [h1, kb1, q153_12]
  have hpv : ∀ k : Int, 0 ≤ k → k < 8 → cl M8 41 k = pvP A p k := fun k k0 k1 => by
    rw [e8, e7, e6, e5, e4, e3, e2, e1]
    rcases (by omega : k = 0 ∨ k = 1 ∨ k = 2 ∨ k = 3 ∨ k = 4 ∨ k = 5 ∨ k = 6 ∨ k = 7) with rfl | rfl | rfl | rfl | rfl | rfl | rfl | rfl <;> simp (disch := omega) only [cl_sc, if_neg, if_pos, if_true, if_false] <;> rfl
  have hf8 : FV M8 40 cs [] := hf.at (f8 40 (by decide)) (f8 44 (by decide)) (f8 48 (by decide))
  have r7 := r47
  obtain ⟨M9, a1, a2⟩ := S104 (M := M8) (X := X) (F := 40) (pv := pvP A p) (cs := cs) r41 r45 (by rw [r7]; omega) hf8.1 hf8.2.1 hpv hf8.2.2.2.2.1 (hv (pvP A p) [] (by show 0 + 22 ≤ 64; omega))
  have a1 : ev true 104 0 0 [pR 12 40, p0, p0, p0] [] M8 X = some (.inl (some (pI (bI (v (pvP A p))))), M9, X) := a1
  refine ⟨M9, ?_, fun b b1 b2 => (a2 b b2).trans (f8 b b1)⟩
  have end_ : ∀ (z1 z2 z3 z4 : PV) (r : Bool), ev true 206 0 114 [pR 4 39, z1, z2, z3, z4] [pI (bI r)] M9 X = some (.inl (some (pI (bI r))), M9, X) := fun z1 z2 z3 z4 r => by
    rw [q206_114, i_0, bIT]
    cases r with
    | true => rw [cond_true, q206_122, i_1, rk1]; rfl
    | false => rw [cond_false, q206_122, rk0]; rfl
  rw [q206_0, i_0, S11p (by omega), ← e1, kb0, q206_16]
  show (ev true 78 0 0 [pR 9 84, pI (ii p)] [] M1 X).bind _ = _
  rw [S78 k1 rl84 h.1 h.2, kb1, q206_27, i_1, S11p (by omega), ← e2, kb0, q206_30]
  show (ev true 79 0 0 [pR 9 84, pI (ii p)] [] M2 X).bind _ = _
  rw [S79 k2 rl84 h.1 h.2, kb1, q206_41, i_2, S11p (by omega), ← e3, kb0, q206_44]
  show (ev true 80 0 0 [pR 9 84, pI (ii p)] [] M3 X).bind _ = _
  rw [S80 k3 rl84 h.1 h.2, kb1, q206_55, i_3, S11p (by omega), ← e4, kb0, q206_58, S155 (kp M4 f4).2 stl83 hi h.1 h.2, kb1, q206_66, i_4, S11p (by omega), ← e5, kb0, q206_69]
  show (ev true 82 0 0 [pR 9 84, pI (ii p)] [] M5 X).bind _ = _
  rw [S82 k5 rl84 h.1 h.2, kb1, q206_80, i_5, S11p (by omega), ← e6, kb0, q206_83, ex, kb1, q206_92, i_6, S11p (by omega), ← e7, kb0, q206_95, sx, kb1, q206_104, i_7, S11p (by omega), ← e8, kb0, q206_107, a1, kb1, end_]
end QTO
