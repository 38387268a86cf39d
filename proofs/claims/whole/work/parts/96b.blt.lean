/-! a text is read, both sides: its fault, or what it tells -/
section BLT
set_option maxRecDepth 100000
variable {z y a c lo hi v N x : Int} {M M' M0 M1 M2 : Mem} {X : PX} {n m i p t b b' d k ne f e f' e' : Nat} {D : Nat → Int} {P Q : PS} {R R' : Int → Int} {cs cs' : List Int}
def BltO (D : Nat → Int) (n : Nat) (Q : PS) (R : Int → Int) (cs : List Int) (f e : Nat) : Prop :=
  (∀ (M : Mem) (X : PX), (∀ i, i < n → M 3 i = ii (D i)) → ∃ M', ev true 276 0 0 [pR 3 4, pR 2 1, pI (ii n), p0] [] M X = some (.inl none, M', X) ∧ CTP M' D n Q ∧ (∀ b, b ≠ 1 → (b < 5 ∨ 39 ≤ b) → M' b = M b) ∧ M' 1 1 = ii 0 ∧ (iF Q → PlC M' R ∧ FV M' 30 cs [])) ∧
  (∀ (M : Mem) (X : PX), (∀ i, i < n → M 827 i = ii (D i)) → (∀ z : Nat, z < 934 → M 821 z = ii (nuR 4 z)) → ∃ M', ev true 306 0 31 [pR 13 819, pI (ii n), p0] [] M X = ev true 306 0 95 [pR 13 819, pI (ii n), p0] [] M' X ∧ RTP M' D n Q ∧ (∀ b, b ≠ 819 → b ≠ 821 → M' b = M b) ∧ (∀ k, k < 18 ∨ k = 25 ∨ 26 < k → M' 819 k = M 819 k) ∧ (iF Q → RVw M' R ∧ TxR M' D R f e)) ∧
  (iF Q → RdI R ∧ LwP D n R cs f e)
theorem S64 : ∃ M', ev true 64 0 0 [pR 5 5] [] M X = some (.inl none, M', X) ∧ FV M' 30 [] [] ∧ (∀ b, (b < 5 ∨ 39 ≤ b) → M' b = M b) ∧ M' 5 1 = ii 0 ∧ M' 5 4 = ii 0 ∧ M' 5 7 = ii 0 ∧ M' 5 12 = ii 0 ∧ M' 5 17 = ii 0 := by
  obtain ⟨M1, e1⟩ : ∃ M1, M1 = upM (upM (upM (upM (upM (upM M 5 0 0) 5 1 0) 5 4 0) 5 7 0) 5 12 0) 5 17 0 := ⟨_, rfl⟩
  obtain ⟨M', a1, a2, a3⟩ := S18 (M := M1) (X := X) (F := 30)
  have g5 : M' 5 = M1 5 := a3.1 5 (by decide) (by decide) (by decide)
  refine ⟨M', ?_, a2, fun b hb => ?_, ?_, ?_, ?_, ?_, ?_⟩
  · rw [q64_0, if_pos (by decide), ← e1]
    show (ev true 18 0 0 [pR 12 30] [] M1 X).bind _ = _
    rw [a1, kb0, q64_37]
  · rw [a3.1 b (by omega) (by omega) (by omega), e1]
    funext y
    rw [up_n (by omega), up_n (by omega), up_n (by omega), up_n (by omega), up_n (by omega), up_n (by omega)]
  · rw [g5, e1, up_d (by decide), up_d (by decide), up_d (by decide), up_d (by decide), up_s, if_pos rfl]; rfl
  · rw [g5, e1, up_d (by decide), up_d (by decide), up_d (by decide), up_s, if_pos rfl]; rfl
  · rw [g5, e1, up_d (by decide), up_d (by decide), up_s, if_pos rfl]; rfl
  · rw [g5, e1, up_d (by decide), up_s, if_pos rfl]; rfl
  · rw [g5, e1, up_s, if_pos rfl]; rfl
noncomputable def bP1 (D : Nat → Int) (n : Nat) : PS := wrdS D n 1 (.inl (bgT D n 0))
noncomputable def bP2 (D : Nat → Int) (n : Nat) : PS := numS D n 4 40 (bP1 D n)
noncomputable def bP3 (D : Nat → Int) (n : Nat) : PS := signS D n 59 (bP2 D n)
noncomputable def bV (D : Nat → Int) (n : Nat) : Int := vaS D n (bP1 D n)
theorem nuR_n (h1 : z ≠ 0) : nuR v z = nuR N z := by unfold nuR; rw [if_neg h1, if_neg h1]
theorem nuR_k (h : 1 ≤ z ∧ z < 174) : nuR v z = 0 := by unfold nuR; rw [if_neg (by omega), if_neg (by omega)]
theorem belt_c (hn : n ≤ 500) (hD : ∀ i, i < n → 0 ≤ D i ∧ D i < 256) (h3 : ∀ i, i < n → M 3 i = ii (D i)) : ∃ M', ev true 276 0 0 [pR 3 4, pR 2 1, pI (ii n), p0] [] M X = ev true 276 0 40 [pR 3 4, pR 2 1, pI (ii n), pI (ii (0 : Nat))] [] M' X ∧ CTP M' D n (bP3 D n) ∧ (∀ b, b ≠ 1 → (b < 5 ∨ 39 ≤ b) → M' b = M b) ∧ M' 1 1 = ii 0 ∧ (iF (bP2 D n) → PlC M' (nuR (bV D n))) ∧ FV M' 30 [] [] := by
  obtain ⟨M1, a1, a2, a3, a4, a5, a6, a7, a8⟩ := S64 (M := M) (X := X)
  obtain ⟨M2, b1, b2, b3, b4, b5⟩ := S142 (M := M1) (X := X) (D := D) (n := n) (fun i hi => ⟨by rw [a3 3 (by omega)]; exact h3 i hi, hD i hi⟩) hn
  obtain ⟨M3, c1, c2, c3⟩ := S248 (X := X) b2 1
  obtain ⟨M4, v, d1, d2, d3, d4, d5, d6⟩ := S144 (X := X) (lo := 4) (hi := 40) c2 (by omega) (by omega)
  have d2 : CTP (upM M4 5 0 (ii v)) D n (bP2 D n) := CTP.kp d2 (by funext y; exact up_n (by decide)) (by funext y; exact up_n (by decide))
  obtain ⟨M5, e1, e2, e3⟩ := S202 (X := X) (c := 59) d2 (by omega)
  have f5 : M5 5 = upM M4 5 0 (ii v) 5 := e3.1 5 (by decide)
  have g5 : ∀ k, M4 5 k = M1 5 k := fun k => by rw [d3.1 5 (by decide), c3.1 5 (by decide), b3 5 (by decide)]
  have fb : ∀ b, b ≠ 1 → b ≠ 5 → M5 b = M1 b := fun b h1 h5 => by
    rw [e3.1 b h1, ← b3 b h1, ← c3.1 b h1, ← d3.1 b h1]
    funext y
    exact up_n h5
  refine ⟨M5, ?_, e2, fun b h1 h2 => ?_, ?_, fun w => ⟨⟨?_, ?_, ?_, ?_, ?_, ?_⟩, fun q hq j hj => ?_⟩, ?_⟩
  · rw [q276_0, a1, kb0, q276_7, b1, kb0, q276_12, c1, kb0, q276_18, i_4, i_40, d1, kb1, q276_29, i_59, e1, kb0, q276_38]
    rfl
  · rw [fb b h1 (by omega), a3 b h2]
  · rw [e3.2 1 (by omega), up_n (by decide), d3.2 1 (by omega), c3.2 1 (by omega)]; exact b4
  · rw [f5, up_s, if_pos rfl, (d5 w).1]; rfl
  · rw [f5, up_d (by decide), g5, a4, nuR_k (by omega)]
  · rw [f5, up_d (by decide), g5, a5, nuR_k (by omega)]
  · rw [f5, up_d (by decide), g5, a6, nuR_k (by omega)]
  · rw [f5, up_d (by decide), g5, a7, nuR_k (by omega)]
  · rw [f5, up_d (by decide), g5, a8, nuR_k (by omega)]
  · have := plT_k q hq
    rw [nuR_k (by omega)] at hj
    omega
  · exact a2.at (fb 30 (by decide) (by decide)) (fb 34 (by decide) (by decide)) (fb 38 (by decide) (by decide))
theorem belt_r (hn : n ≤ 500) (hD : ∀ i, i < n → 0 ≤ D i ∧ D i < 256) (h3 : ∀ i, i < n → M 827 i = ii (D i)) (h0 : ∀ z : Nat, z < 934 → M 821 z = ii (nuR 4 z)) : ∃ M', ev true 306 0 31 [pR 13 819, pI (ii n), p0] [] M X = ev true 306 0 74 [pR 13 819, pI (ii n), p0] [] M' X ∧ RTP M' D n (bP3 D n) ∧ (∀ b, b ≠ 819 → b ≠ 821 → M' b = M b) ∧ (∀ k, k < 18 ∨ k = 25 ∨ 26 < k → M' 819 k = M 819 k) ∧ M' 819 26 = ii 0 ∧ (iF (bP2 D n) → RVw M' (nuR (bV D n))) := by
  obtain ⟨M1, a1, a2, a3, a4, a5⟩ := S191 (M := M) (X := X) (D := D) (n := n) (fun i hi => ⟨h3 i hi, hD i hi⟩) hn
  obtain ⟨M3, c1, c2, c3⟩ : ∃ M3, ev true 306 0 36 [pR 13 819, pI (ii n), p0] [] M1 X = ev true 306 0 55 [pR 13 819, pI (ii n), p0] [] M3 X ∧ RTP M3 D n (bP1 D n) ∧ FrP M1 M3 := by
    rw [q306_36, S238 a2, kb1, q306_43, i_0, bIT, wdR_l]
    unfold bP1
    show ∃ M3, _ ∧ RTP M3 D n (bif wdB D n (bgT D n 0) 1 then .inl (nxD D n (bgT D n 0)) else .inr (1, bgT D n 0)) ∧ _
    cases hw : wdB D n (bgT D n 0) 1 with
    | true =>
      obtain ⟨M3, k1, k2, k3⟩ := S192 (X := X) a2
      exact ⟨M3, by rw [cond_true, q306_51, k1, kb0], k2, k3⟩
    | false =>
      obtain ⟨M2, j1, j2, j3⟩ := S46 (X := X) a2 (c := 1) (by omega)
      obtain ⟨M3, k1, k2, k3⟩ := S192 (X := X) j2
      exact ⟨M3, by rw [cond_false, i_1, j1, kb0, q306_51, k1, kb0], k2, j3.tr k3⟩
  obtain ⟨M4, v, d1, d2, d3, d4, d5⟩ := S218 (X := X) (lo := 4) (hi := 40) c2 (by omega) (by omega)
  have d2 : RTP (upM M4 821 0 (ii v)) D n (bP2 D n) := RTP.q d2
  obtain ⟨M5, e1, e2, e3⟩ := S219 (X := X) (c := 59) d2 (by omega)
  have f5 : M5 821 = upM M4 821 0 (ii v) 821 := e3.1 821 (by decide)
  have fk : ∀ k, k < 19 ∨ 24 < k → M5 819 k = M1 819 k := fun k hk => by rw [e3.2 k hk, up_n (by decide), d3.2 k hk, c3.2 k hk]
  refine ⟨M5, ?_, e2, fun b h1 h2 => ?_, fun k hk => ?_, ?_, fun w z hz => ?_⟩
  · rw [q306_31, a1, kb0, c1, q306_55, i_4, i_40, d1, kb1, q306_67, i_0, inQ (by omega), i_59, ii_nat (by omega) (by omega)]
    show (ev true 219 0 0 [pR 13 819, pI (ii 59)] [] (upM M4 821 0 (ii v)) X).bind _ = _
    rw [e1, kb0]
  · rw [e3.1 b h1, ← a3 b h1, ← c3.1 b h1, ← d3.1 b h1]
    funext y
    exact up_n h2
  · rw [fk k (by omega), a5 k hk]
  · rw [fk 26 (by omega), a4]
  · rw [f5, up_s]
    by_cases c : z = 0
    · subst c
      rw [if_pos rfl, (d5 w).1]; rfl
    · rw [if_neg c, d3.1 821 (by decide), c3.1 821 (by decide), a3 821 (by decide), h0 z hz, nuR_n (show (z : Int) ≠ 0 by omega)]
theorem belt_text (hn : n ≤ 500) (hD : ∀ i, i < n → 0 ≤ D i ∧ D i < 256) : ∃ Q R cs f e, BltO D n Q R cs f e := by
  cases hP : bP3 D n with
  | inr q =>
    refine ⟨.inr q, nuR 4, [], 0, 0, fun M X h3 => ?_, fun M X h3 h0 => ?_, fun w => niF w⟩
    · obtain ⟨M', a1, a2, a3, a4, a5, a6⟩ := belt_c (M := M) (X := X) hn hD h3
      rw [hP] at a2
      exact ⟨M', by rw [a1, C_endq a2 (by omega)], a2, a3, a4, fun w => niF w⟩
    · obtain ⟨M', a1, a2, a3, a4, a5, a6⟩ := belt_r (M := M) (X := X) hn hD h3 h0
      rw [hP] at a2
      obtain ⟨g, p⟩ := q
      have g1 := a2.2.1
      have g2 := a2.2.2.1
      exact ⟨M', by rw [a1, q306_74, g1, i_0, eqF (by omega)], a2, a3, a4, fun w => niF w⟩
  | inl b =>
    have h2 : iF (bP2 D n) := iF_sg (n := n) (D := D) (c := 59) (by
      have : signS D n 59 (bP2 D n) = .inl b := hP
      rw [this]; exact ⟨b, rfl⟩)
    have hle : leS n 0 (bP2 D n) := by
      refine le_num ?_
      show leS n 0 (wrdS D n 1 (.inl (bgT D n 0)))
      intro b' e
      have := wrd_le (bg_in (D := D) (Nat.zero_le n)).2.1 e
      omega
    obtain ⟨s1, s2, s3⟩ := le_sg hle hP
    have hv := num_v h2
    have hv : 4 ≤ bV D n ∧ bV D n ≤ 40 := hv
    obtain ⟨Q, R, cs, f, e, k1, k2, k3⟩ := all_lines (D := D) (n := n) (n - b) b (nuR (bV D n)) [] 0 0 (Nat.le_refl _) s2 s3 (nuR_I hv) (Or.inl ⟨nuR_k (by omega), nuR_k (by omega), rfl⟩)
    refine ⟨Q, R, cs, f, e, fun M X h3 => ?_, fun M X h3 h0 => ?_, k3⟩
    · obtain ⟨M1, a1, a2, a3, a4, a5, a6⟩ := belt_c (M := M) (X := X) hn hD h3
      rw [hP] at a2
      obtain ⟨M2, b1, b2, b3, b4⟩ := k1 M1 X (ii n) 0 (by omega) a2 (a5 h2) a6
      exact ⟨M2, a1.trans b1, b2, fun b q1 q2 => (b3.1 b q1 q2).trans (a3 b q1 q2), (b3.2 1 (by omega)).trans a4, b4⟩
    · obtain ⟨M1, a1, a2, a3, a4, a5, a6⟩ := belt_r (M := M) (X := X) hn hD h3 h0
      rw [hP] at a2
      obtain ⟨M2, b1, b2, b3, b4⟩ := k2 M1 X (ii n) p0 a2 (a6 h2) a5 (fun w => by rw [nuR_k (by omega)] at w; omega)
      refine ⟨M2, a1.trans b1, b2, fun b q1 q2 => (b3.1 b q1 q2).trans (a3 b q1 q2), fun k hk => ?_, b4⟩
      by_cases c : k < 19 ∨ 24 < k
      · rw [b3.2 k c, a4 k hk]
      · exact absurd hk (by omega)
end BLT
