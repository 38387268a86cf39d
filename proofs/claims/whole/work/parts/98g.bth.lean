/-! every call, both sides: the class's answer is the reference's -/
section BTHS
set_option maxRecDepth 100000
variable {z y a b d T T' : Int} {M M' M0 M1 M2 : Mem} {X : PX} {n n' i s s' c r w e : Nat} {D D' : Nat → Int} {A A' I I' : AT} {Q Q' : Nat → AT} {k k' : Bool} {f f' g : Int} {cas ras : List PV} {v : Int32}
/-- the world behind i calls -/
def W9 (i : Nat) (M : Mem) : Prop := ∃ A n Q k I s D f, CW M A n Q k I s D f ∧ RWx M A n Q k I s D f ∧ ZW (500 * (i : Int)) A n Q k I s D f
def BTD (i c : Nat) (cas : List PV) (r : Nat) (ras : List PV) : Prop := ∀ M X, W9 i M → ∃ v M1, ev true c 0 0 cas [] M X = some (.inl (some (pI v)), M1, X) ∧ (∀ b, 819 ≤ b → M1 b = M b) ∧ ∀ X2, ∃ M2, ev true r 0 0 ras [] M1 X2 = some (.inl (some (pI v)), M2, X2) ∧ W9 (i + 1) M2
def BTH (i w c : Nat) (cas : List PV) (r : Nat) (ras : List PV) : Prop := ∀ M X, W9 i M → XZ X →
  (∃ v M1, ev true c 0 0 cas [] M X = some (.inl (some (pI v)), M1, X) ∧ (∀ b, 819 ≤ b → M1 b = M b) ∧ ∀ X2, ∃ M2, ev true r 0 0 ras [] M1 X2 = some (.inl (some (pI v)), M2, X2) ∧ W9 (i + 1) M2 ∧ M2 819 7 = ii 0) ∨
  ∃ e g v, hdF hdT w e = some (ii g) ∧ (0 < g ∧ g ≤ 2) ∧ ev true c 0 0 cas [] M X = some (.inr e, M, thX X) ∧ ∀ X2, ∃ M2, ev true r 0 0 ras [] M X2 = some (.inl (some (pI v)), M2, X2) ∧ W9 (i + 1) M2 ∧ M2 819 7 = ii g
theorem both_y (hz : ZW (500 * (i : Int)) A n Q k I s D f) (hz' : ZW T' A' n' Q' k' I' s' D' f') (hT : T' ≤ 500 * ((i + 1 : Nat) : Int)) (hc : cA (fun M => CW M A n Q k I s D f) (fun M => CW M A' n' Q' k' I' s' D' f') c cas v) (hr : rA (fun M => RWx M A n Q k I s D f) (fun M => RWx M A' n' Q' k' I' s' D' f') r ras v g) (h1 : CW M A n Q k I s D f) (h2 : RWx M A n Q k I s D f) : ∃ M1, ev true c 0 0 cas [] M X = some (.inl (some (pI v)), M1, X) ∧ (∀ b, 819 ≤ b → M1 b = M b) ∧ ∀ X2, ∃ M2, ev true r 0 0 ras [] M1 X2 = some (.inl (some (pI v)), M2, X2) ∧ W9 (i + 1) M2 ∧ M2 819 7 = ii g := by
  obtain ⟨M1, a1, a2, a3⟩ := hc M X h1
  refine ⟨M1, a1, a3, fun X2 => ?_⟩
  obtain ⟨M2, b1, b2, b3, b4⟩ := hr M1 X2 (h2.fr hz a3)
  exact ⟨M2, b1, ⟨A', n', Q', k', I', s', D', f', a2.fr b3, b2, hz'.le hT⟩, b4⟩
theorem bth_y (hz : ZW (500 * (i : Int)) A n Q k I s D f) (hz' : ZW T' A' n' Q' k' I' s' D' f') (hT : T' ≤ 500 * ((i + 1 : Nat) : Int)) (hc : cA (fun M => CW M A n Q k I s D f) (fun M => CW M A' n' Q' k' I' s' D' f') c cas v) (hr : rA (fun M => RWx M A n Q k I s D f) (fun M => RWx M A' n' Q' k' I' s' D' f') r ras v 0) (h1 : CW M A n Q k I s D f) (h2 : RWx M A n Q k I s D f) : (∃ v M1, ev true c 0 0 cas [] M X = some (.inl (some (pI v)), M1, X) ∧ (∀ b, 819 ≤ b → M1 b = M b) ∧ ∀ X2, ∃ M2, ev true r 0 0 ras [] M1 X2 = some (.inl (some (pI v)), M2, X2) ∧ W9 (i + 1) M2 ∧ M2 819 7 = ii 0) ∨
  ∃ e g v, hdF hdT w e = some (ii g) ∧ (0 < g ∧ g ≤ 2) ∧ ev true c 0 0 cas [] M X = some (.inr e, M, thX X) ∧ ∀ X2, ∃ M2, ev true r 0 0 ras [] M X2 = some (.inl (some (pI v)), M2, X2) ∧ W9 (i + 1) M2 ∧ M2 819 7 = ii g := Or.inl ⟨v, both_y hz hz' hT hc hr h1 h2⟩
theorem bth_n (hz : ZW (500 * (i : Int)) A n Q k I s D f) (hh : hdF hdT w e = some (ii g)) (hg : 0 < g ∧ g ≤ 2) (hX : XZ X) (hc : cT (fun M => CW M A n Q k I s D f) c cas e) (hr : rA (fun M => RWx M A n Q k I s D f) (fun M => RWx M A n Q k I s D f) r ras v g) (h1 : CW M A n Q k I s D f) (h2 : RWx M A n Q k I s D f) : (∃ v M1, ev true c 0 0 cas [] M X = some (.inl (some (pI v)), M1, X) ∧ (∀ b, 819 ≤ b → M1 b = M b) ∧ ∀ X2, ∃ M2, ev true r 0 0 ras [] M1 X2 = some (.inl (some (pI v)), M2, X2) ∧ W9 (i + 1) M2 ∧ M2 819 7 = ii 0) ∨
  ∃ e g v, hdF hdT w e = some (ii g) ∧ (0 < g ∧ g ≤ 2) ∧ ev true c 0 0 cas [] M X = some (.inr e, M, thX X) ∧ ∀ X2, ∃ M2, ev true r 0 0 ras [] M X2 = some (.inl (some (pI v)), M2, X2) ∧ W9 (i + 1) M2 ∧ M2 819 7 = ii g := by
  refine Or.inr ⟨e, g, v, hh, hg, hc M X h1 hX, fun X2 => ?_⟩
  obtain ⟨M2, b1, b2, b3, b4⟩ := hr M X2 h2
  exact ⟨M2, b1, ⟨A, n, Q, k, I, s, D, f, h1.fr b3, b2, hz.le (by omega)⟩, b4⟩
theorem t_le : (500 : Int) * (i : Int) ≤ 500 * ((i + 1 : Nat) : Int) := by omega
theorem b_feed (x1 x2 x3 x4 x5 : Int32) : BTD i 135 [pR 1 0, pI x1, pI x2, pI x3, pI x4, pI x5] 43 [pR 13 819, pI x1, pI x2, pI x3, pI x4, pI x5, p0, p0] := by
  rintro M X ⟨A, n, Q, k, I, s, D, f, h1, h2, hz⟩
  obtain ⟨v, s', D', c1, c2, c3⟩ := P_feed (a := x1) (b := x2) (c := x3) (d := x4) (e := x5) hz
  obtain ⟨M1, a1, a2, a3⟩ := both_y (X := X) hz c3 t_le c1 c2 h1 h2
  exact ⟨v, M1, a1, a2, fun X2 => by obtain ⟨M2, b1, b2, -⟩ := a3 X2; exact ⟨M2, b1, b2⟩⟩
theorem b_fault : BTD i 0 [pR 1 0] 44 [pR 13 819] := by
  rintro M X ⟨A, n, Q, k, I, s, D, f, h1, h2, hz⟩
  obtain ⟨c1, c2⟩ := P_fault hz
  obtain ⟨M1, a1, a2, a3⟩ := both_y (X := X) hz hz t_le c1 c2 h1 h2
  exact ⟨_, M1, a1, a2, fun X2 => by obtain ⟨M2, b1, b2, -⟩ := a3 X2; exact ⟨M2, b1, b2⟩⟩
theorem b_heavy : BTD i 136 [pR 1 0, p0, p0] 217 [pR 13 819, p0, p0] := by
  rintro M X ⟨A, n, Q, k, I, s, D, f, h1, h2, hz⟩
  obtain ⟨c1, c2⟩ := P_heavy hz
  obtain ⟨M1, a1, a2, a3⟩ := both_y (X := X) hz hz t_le c1 c2 h1 h2
  exact ⟨_, M1, a1, a2, fun X2 => by obtain ⟨M2, b1, b2, -⟩ := a3 X2; exact ⟨M2, b1, b2⟩⟩
theorem b_push (hi : i ≤ 600) (ha : B32 a) (hb : B32 b) : BTD i 243 [pR 1 0, pI (ii a), pI (ii b)] 185 [pR 13 819, pI (ii a), pI (ii b), p0] := by
  rintro M X ⟨A, n, Q, k, I, s, D, f, h1, h2, hz⟩
  by_cases hc : pshB A a b
  · obtain ⟨M1, a1, a2, a3⟩ := C_push_y (X := X) h1 hz.1.1 ha hb hc
    have hz' : ZW (500 * (i : Int)) (joinA A a b) (kpN n) (kpQ n Q A) k I s D f := hz.keep (join_PW hz.1 hc.1.1 hc.1.2 hc.2.2 hc.2.1.1 hc.2.1.2) join_SP
    refine ⟨_, M1, a1, a3, fun X2 => ?_⟩
    obtain ⟨M2, b1, b2, b3⟩ := R_push_y (X := X2) (h2.fr hz a3) hz (by omega) ha hb hc
    exact ⟨M2, b1, _, _, _, _, _, _, _, _, a2.fr b3, b2, hz'.le t_le⟩
  · refine ⟨_, M, C_push_n h1 hz.1.1 ha hb hc, fun _ _ => rfl, fun X2 => ?_⟩
    obtain ⟨M2, b1, b2, b3⟩ := R_push_n' (X := X2) h2 hz ha hb hc
    exact ⟨M2, b1, _, _, _, _, _, _, _, _, h1.fr b3, b2, hz.le t_le⟩
theorem b_undo : BTD i 244 [pR 1 0] 37 [pR 13 819, p0] := by
  rintro M X ⟨A, n, Q, k, I, s, D, f, h1, h2, hz⟩
  cases n with
  | zero =>
    refine ⟨_, M, C_undo_n h1, fun _ _ => rfl, fun X2 => ?_⟩
    obtain ⟨M2, b1, b2, b3⟩ := R_undo_n (X := X2) h2 hz
    exact ⟨M2, b1, _, _, _, _, _, _, _, _, h1.fr b3, b2, hz.le t_le⟩
  | succ m =>
    obtain ⟨M1, a1, a2, a3⟩ := C_undo_y (X := X) h1 hz (by omega)
    refine ⟨_, M1, a1, a3, fun X2 => ?_⟩
    obtain ⟨M2, b1, b2, b3⟩ := R_undo_y (X := X2) (h2.fr hz a3) hz (by omega)
    have hz' : ZW (500 * (i : Int)) (Q (m + 1 - 1)) (m + 1 - 1) Q k I s D f := by
      obtain ⟨z1, z2, z3, z4⟩ := hz
      obtain ⟨p1, p2⟩ := z3 (m + 1 - 1) (by omega)
      exact ⟨p1, by omega, fun j hj => ⟨(z3 j (by omega)).1, p2.sy.tr (z3 j (by omega)).2⟩, z4⟩
    exact ⟨M2, b1, _, _, _, _, _, _, _, _, a2.fr b3, b2, hz'.le t_le⟩
theorem b_back : BTD i 228 [pR 1 0] 128 [pR 13 819] := by
  rintro M X ⟨A, n, Q, k, I, s, D, f, h1, h2, hz⟩
  cases k with
  | false =>
    refine ⟨_, M, C_back_n h1, fun _ _ => rfl, fun X2 => ?_⟩
    obtain ⟨M2, b1, b2, b3⟩ := R_back_n (X := X2) h2 hz
    exact ⟨M2, b1, _, _, _, _, _, _, _, _, h1.fr b3, b2, hz.le t_le⟩
  | true =>
    obtain ⟨M1, a1, a2, a3⟩ := C_back_y (X := X) h1 hz
    refine ⟨_, M1, a1, a3, fun X2 => ?_⟩
    obtain ⟨M2, b1, b2, b3⟩ := R_back_y (X := X2) (h2.fr hz a3) hz
    have hz' : ZW (500 * (i : Int)) I 0 Q true I s D f := ⟨hz.2.2.2.1 rfl, by omega, fun j hj => by omega, hz.2.2.2⟩
    exact ⟨M2, b1, _, _, _, _, _, _, _, _, a2.fr b3, b2, hz'.le t_le⟩
theorem b_image (h : W9 i M) : ∃ M1, ev true 227 0 0 [pR 1 0] [] M X = some (.inl none, M1, X) ∧ ∀ X2, ∃ M2, ev true 127 0 0 [pR 13 819] [] M1 X2 = some (.inl none, M2, X2) ∧ W9 (i + 1) M2 := by
  obtain ⟨A, n, Q, k, I, s, D, f, h1, h2, hz⟩ := h
  obtain ⟨M1, a1, a2, a3⟩ := C_image (X := X) h1 hz
  refine ⟨M1, a1, fun X2 => ?_⟩
  obtain ⟨M2, b1, b2, b3⟩ := R_image (X := X2) (h2.fr hz a3) hz
  have hz' : ZW (500 * (i : Int)) A n Q true A s D f := ⟨hz.1, hz.2.1, hz.2.2.1, fun _ => hz.1, hz.2.2.2.2⟩
  exact ⟨M2, b1, _, _, _, _, _, _, _, _, a2.fr b3, b2, hz'.le t_le⟩
theorem b_belt (ha : B32 a) : BTH i 280 278 [pR 1 0, pI (ii a)] 306 [pR 13 819, pI (ii a), p0] := by
  rintro M X ⟨A, n, Q, k, I, s, D, f, h1, h2, hz⟩ hX
  by_cases hc : 0 ≤ a ∧ a ≤ s
  · obtain ⟨v, B, n', f', c1, c2, c3⟩ := P_belt_y hz h1 hc
    exact bth_y hz c3 t_le c1 c2 h1 h2
  · obtain ⟨c1, c2⟩ := P_belt_n hz ha hc
    exact bth_n hz (g := 1) rfl (by omega) hX c1 c2 h1 h2
theorem b_ask (hi : i ≤ 600) (ha : B32 a) : BTH i 281 279 [pR 1 0, pI (ii a), p0, p0] 307 [pR 13 819, pI (ii a), p0, p0, p0, p0, p0] := by
  rintro M X ⟨A, n, Q, k, I, s, D, f, h1, h2, hz⟩ hX
  by_cases hc : 0 ≤ a ∧ a ≤ s ∧ a ≤ 200
  · obtain ⟨v, f', c1, c2, c3⟩ := P_ask_y hz (by omega) h1 hc
    exact bth_y hz c3 t_le c1 c2 h1 h2
  · obtain ⟨c1, c2⟩ := P_ask_n hz ha hc
    exact bth_n hz (g := 1) rfl (by omega) hX c1 c2 h1 h2
theorem b_count (hi : i ≤ 600) (hb : B32 b) : BTH i 194 137 [pR 1 0, pI (ii b)] 174 [pR 13 819, pI (ii b)] := by
  rintro M X ⟨A, n, Q, k, I, s, D, f, h1, h2, hz⟩ hX
  by_cases hc : 0 ≤ b ∧ b < 16
  · obtain ⟨v, c1, c2⟩ := P_count_y hz (by omega) hc
    exact bth_y hz hz t_le c1 c2 h1 h2
  · obtain ⟨c1, c2⟩ := P_count_n hz (by omega) hb hc
    exact bth_n hz (g := 1) rfl (by omega) hX c1 c2 h1 h2
theorem b_place (hi : i ≤ 600) (ha : B32 a) (hb : B32 b) : BTH i 223 199 [pR 1 0, pI (ii a), pI (ii b)] 175 [pR 13 819, pI (ii a), pI (ii b)] := by
  rintro M X ⟨A, n, Q, k, I, s, D, f, h1, h2, hz⟩ hX
  by_cases hc : (0 ≤ a ∧ a < A 0 0) ∧ (0 ≤ b ∧ b < 5)
  · obtain ⟨v, c1, c2⟩ := P_place_y hz (by omega) hc
    exact bth_y hz hz t_le c1 c2 h1 h2
  · obtain ⟨c1, c2⟩ := P_place_n hz (by omega) ha hb hc
    exact bth_n hz (g := 1) rfl (by omega) hX c1 c2 h1 h2
theorem b_exit (hi : i ≤ 600) (ha : B32 a) (hb : B32 b) : BTH i 242 229 [pR 1 0, pI (ii a), pI (ii b)] 176 [pR 13 819, pI (ii a), pI (ii b)] := by
  rintro M X ⟨A, n, Q, k, I, s, D, f, h1, h2, hz⟩ hX
  by_cases hc : (0 ≤ a ∧ a < A 0 1) ∧ (0 ≤ b ∧ b < 6)
  · obtain ⟨v, c1, c2⟩ := P_exit_y hz (by omega) hc
    exact bth_y hz hz t_le c1 c2 h1 h2
  · obtain ⟨c1, c2⟩ := P_exit_n hz (by omega) ha hb hc
    exact bth_n hz (g := 1) rfl (by omega) hX c1 c2 h1 h2
theorem b_ware (hi : i ≤ 600) (ha : B32 a) (hb : B32 b) : BTH i 224 200 [pR 1 0, pI (ii a), pI (ii b)] 177 [pR 13 819, pI (ii a), pI (ii b)] := by
  rintro M X ⟨A, n, Q, k, I, s, D, f, h1, h2, hz⟩ hX
  by_cases hc : (0 ≤ a ∧ a < A 0 2) ∧ (0 ≤ b ∧ b < 5)
  · obtain ⟨v, c1, c2⟩ := P_ware_y hz (by omega) hc
    exact bth_y hz hz t_le c1 c2 h1 h2
  · obtain ⟨c1, c2⟩ := P_ware_n hz (by omega) ha hb hc
    exact bth_n hz (g := 1) rfl (by omega) hX c1 c2 h1 h2
theorem b_side (hi : i ≤ 600) (ha : B32 a) (hb : B32 b) : BTH i 225 201 [pR 1 0, pI (ii a), pI (ii b)] 286 [pR 13 819, pI (ii a), pI (ii b)] := by
  rintro M X ⟨A, n, Q, k, I, s, D, f, h1, h2, hz⟩ hX
  by_cases hc : (0 ≤ a ∧ a < A 0 3) ∧ (0 ≤ b ∧ b < 14)
  · obtain ⟨v, c1, c2⟩ := P_side_y hz (by omega) hc
    exact bth_y hz hz t_le c1 c2 h1 h2
  · obtain ⟨c1, c2⟩ := P_side_n hz (by omega) ha hb hc
    exact bth_n hz (g := 1) rfl (by omega) hX c1 c2 h1 h2
theorem b_waiting (hi : i ≤ 600) (ha : B32 a) (hb : B32 b) : BTH i 195 138 [pR 1 0, pI (ii a), pI (ii b)] 179 [pR 13 819, pI (ii a), pI (ii b)] := by
  rintro M X ⟨A, n, Q, k, I, s, D, f, h1, h2, hz⟩ hX
  by_cases hc : (0 ≤ a ∧ a < A 0 3) ∧ (0 ≤ b ∧ b < A 44 a)
  · obtain ⟨v, c1, c2⟩ := P_waiting_y hz (by omega) hc
    exact bth_y hz hz t_le c1 c2 h1 h2
  · obtain ⟨c1, c2⟩ := P_waiting_n hz (by omega) ha hb hc
    exact bth_n hz (g := 1) rfl (by omega) hX c1 c2 h1 h2
theorem b_coming (hi : i ≤ 600) (ha : B32 a) (hb : B32 b) : BTH i 196 139 [pR 1 0, pI (ii a), pI (ii b)] 180 [pR 13 819, pI (ii a), pI (ii b)] := by
  rintro M X ⟨A, n, Q, k, I, s, D, f, h1, h2, hz⟩ hX
  by_cases hc : (0 ≤ a ∧ a < A 0 4) ∧ (0 ≤ b ∧ b < 5)
  · obtain ⟨v, c1, c2⟩ := P_coming_y hz (by omega) hc
    exact bth_y hz hz t_le c1 c2 h1 h2
  · obtain ⟨c1, c2⟩ := P_coming_n hz (by omega) ha hb hc
    exact bth_n hz (g := 1) rfl (by omega) hX c1 c2 h1 h2
theorem b_log (hi : i ≤ 600) (ha : B32 a) (hb : B32 b) : BTH i 197 140 [pR 1 0, pI (ii a), pI (ii b)] 121 [pR 13 819, pI (ii a), pI (ii b)] := by
  rintro M X ⟨A, n, Q, k, I, s, D, f, h1, h2, hz⟩ hX
  by_cases hc : (0 ≤ a ∧ a < A 0 8) ∧ (0 ≤ b ∧ b < 7)
  · obtain ⟨v, c1, c2⟩ := P_log_y hz (by omega) hc
    exact bth_y hz hz t_le c1 c2 h1 h2
  · obtain ⟨c1, c2⟩ := P_log_n hz (by omega) ha hb hc
    exact bth_n hz (g := 1) rfl (by omega) hX c1 c2 h1 h2
theorem b_ticks (hi : i ≤ 600) (ha : B32 a) : BTH i 267 257 [pR 1 0, pI (ii a), p0] 300 [pR 13 819, pI (ii a), p0] := by
  rintro M X ⟨A, n, Q, k, I, s, D, f, h1, h2, hz⟩ hX
  by_cases hc : 1 ≤ a ∧ a ≤ 500
  · have hp := hz.1.run (off := -1) a.toNat
    have hz' : ZW (500 * (i : Int) + (a.toNat : Int)) (runA (-1) a.toNat A) (kpN n) (kpQ n Q A) k I s D f := (hz.le (by omega)).keep hp (run_SP a.toNat A)
    have c1 : cA (fun M => CW M A n Q k I s D f) (fun M => CW M (runA (-1) a.toNat A) (kpN n) (kpQ n Q A) k I s D f) 257 [pR 1 0, pI (ii a), p0] (ii (runA (-1) a.toNat A 0 6 - A 0 6)) := fun M X h => C_ticks_y h hz (by omega) hc
    have c2 : rA (fun M => RWx M A n Q k I s D f) (fun M => RWx M (runA (-1) a.toNat A) (kpN n) (kpQ n Q A) k I s D f) 300 [pR 13 819, pI (ii a), p0] (ii (runA (-1) a.toNat A 0 6 - A 0 6)) 0 := fun M X h => R_ticks_y h hz (by omega) hc
    exact bth_y hz hz' (by omega) c1 c2 h1 h2
  · have c1 : cT (fun M => CW M A n Q k I s D f) 257 [pR 1 0, pI (ii a), p0] 2 := fun M X h hX => C_ticks_n hX ha hc
    have c2 : rA (fun M => RWx M A n Q k I s D f) (fun M => RWx M A n Q k I s D f) 300 [pR 13 819, pI (ii a), p0] (ii 0) 1 := fun M X h => R_ticks_n h hz ha hc
    exact bth_n hz (g := 1) rfl (by omega) hX c1 c2 h1 h2
theorem b_shut (ha : B32 a) (hb : B32 b) : BTH i 255 245 [pR 1 0, pI (ii a), pI (ii b), p0] 186 [pR 13 819, pI (ii a), pI (ii b), p0] := by
  rintro M X ⟨A, n, Q, k, I, s, D, f, h1, h2, hz⟩ hX
  by_cases hc : 0 ≤ a ∧ a < A 0 1
  · by_cases hd : 0 ≤ b ∧ b ≤ 999
    · obtain ⟨hp, hsp⟩ := set_PW (g := 32) (j := a) (x := b) hz.1 (Or.inl rfl) hc.1 ⟨fun _ => hd, fun w => by omega, fun w => by omega, fun w => by omega⟩
      have c1 : cA (fun M => CW M A n Q k I s D f) (fun M => CW M (upA A 32 a b) (kpN n) (kpQ n Q A) k I s D f) 245 [pR 1 0, pI (ii a), pI (ii b), p0] (ii (A 32 a)) := fun M X h => C_shut_y h hz.1.1 ha hc hd
      have c2 : rA (fun M => RWx M A n Q k I s D f) (fun M => RWx M (upA A 32 a b) (kpN n) (kpQ n Q A) k I s D f) 186 [pR 13 819, pI (ii a), pI (ii b), p0] (ii (A 32 a)) 0 := fun M X h => R_shut_y h hz ha hb hc hd
      exact bth_y hz (hz.keep hp hsp) t_le c1 c2 h1 h2
    · have c1 : cT (fun M => CW M A n Q k I s D f) 245 [pR 1 0, pI (ii a), pI (ii b), p0] 2 := fun M X h hX => C_shut_2 h hz.1.1 hX ha hb hc hd
      have c2 : rA (fun M => RWx M A n Q k I s D f) (fun M => RWx M A n Q k I s D f) 186 [pR 13 819, pI (ii a), pI (ii b), p0] (ii 0) 2 := fun M X h => by
        have := R_shut_n (X := X) h hz ha hb (fun w => hd w.2)
        rw [if_pos hc] at this
        exact this
      exact bth_n hz (g := 2) rfl (by omega) hX c1 c2 h1 h2
  · have c1 : cT (fun M => CW M A n Q k I s D f) 245 [pR 1 0, pI (ii a), pI (ii b), p0] 1 := fun M X h hX => C_shut_1 h hz.1.1 hX ha hc
    have c2 : rA (fun M => RWx M A n Q k I s D f) (fun M => RWx M A n Q k I s D f) 186 [pR 13 819, pI (ii a), pI (ii b), p0] (ii 0) 1 := fun M X h => by
      have := R_shut_n (X := X) h hz ha hb (fun w => hc w.1)
      rw [if_neg hc] at this
      exact this
    exact bth_n hz (g := 1) rfl (by omega) hX c1 c2 h1 h2
theorem b_change (ha : B32 a) (hb : B32 b) (hd : B32 d) : BTH i 256 246 [pR 1 0, pI (ii a), pI (ii b), pI (ii d), p0, p0] 187 [pR 13 819, pI (ii a), pI (ii b), pI (ii d), p0, p0, p0, p0] := by
  rintro M X ⟨A, n, Q, k, I, s, D, f, h1, h2, hz⟩ hX
  by_cases hc : (0 ≤ a ∧ a < A 0 3) ∧ (0 ≤ b ∧ b < 3)
  · by_cases he : chB A b d
    · obtain ⟨M2, -, -, -, -, hp, hsp⟩ := R_change_y (X := X) h2 hz ha hb hd hc he
      have c1 : cA (fun M => CW M A n Q k I s D f) (fun M => CW M (upA A (chF b) a d) (kpN n) (kpQ n Q A) k I s D f) 246 [pR 1 0, pI (ii a), pI (ii b), pI (ii d), p0, p0] (ii (A (chF b) a)) := fun M X h => C_change_y h hz.1.1 ha hb hd hc he
      have c2 : rA (fun M => RWx M A n Q k I s D f) (fun M => RWx M (upA A (chF b) a d) (kpN n) (kpQ n Q A) k I s D f) 187 [pR 13 819, pI (ii a), pI (ii b), pI (ii d), p0, p0, p0, p0] (ii (A (chF b) a)) 0 := fun M X h => by
        obtain ⟨M3, k1, k2, k3, k4, -⟩ := R_change_y (X := X) h hz ha hb hd hc he
        exact ⟨M3, k1, k2, k3, k4⟩
      exact bth_y hz (hz.keep hp hsp) t_le c1 c2 h1 h2
    · have c1 : cT (fun M => CW M A n Q k I s D f) 246 [pR 1 0, pI (ii a), pI (ii b), pI (ii d), p0, p0] 2 := fun M X h hX => C_change_2 h hz.1.1 hX ha hb hd hc he
      have c2 : rA (fun M => RWx M A n Q k I s D f) (fun M => RWx M A n Q k I s D f) 187 [pR 13 819, pI (ii a), pI (ii b), pI (ii d), p0, p0, p0, p0] (ii 0) 2 := fun M X h => by
        have := R_change_n (X := X) h hz ha hb hd (fun w => he w.2)
        rw [if_pos hc] at this
        exact this
      exact bth_n hz (g := 2) rfl (by omega) hX c1 c2 h1 h2
  · have c1 : cT (fun M => CW M A n Q k I s D f) 246 [pR 1 0, pI (ii a), pI (ii b), pI (ii d), p0, p0] 1 := fun M X h hX => C_change_1 h hz.1.1 hX ha hb hc
    have c2 : rA (fun M => RWx M A n Q k I s D f) (fun M => RWx M A n Q k I s D f) 187 [pR 13 819, pI (ii a), pI (ii b), pI (ii d), p0, p0, p0, p0] (ii 0) 1 := fun M X h => by
      have := R_change_n (X := X) h hz ha hb hd (fun w => hc w.1)
      rw [if_neg hc] at this
      exact this
    exact bth_n hz (g := 1) rfl (by omega) hX c1 c2 h1 h2
theorem b_trial (hi : i ≤ 600) (ha : B32 a) (hb : B32 b) : BTH i 268 258 [pR 1 0, pI (ii a), pI (ii b)] 301 [pR 13 819, pI (ii a), pI (ii b), p0] := by
  rintro M X ⟨A, n, Q, k, I, s, D, f, h1, h2, hz⟩ hX
  by_cases hc : 0 ≤ b ∧ b < 5
  · by_cases hd : 0 ≤ a ∧ a ≤ 500
    · obtain ⟨c1, c2⟩ := P_trial_y hz (by omega) hc hd
      exact bth_y hz hz t_le c1 c2 h1 h2
    · obtain ⟨c1, c2⟩ := P_trial_2 hz ha hc hd
      exact bth_n hz (g := 2) rfl (by omega) hX c1 c2 h1 h2
  · obtain ⟨c1, c2⟩ := P_trial_1 (a := a) hz hb hc
    exact bth_n hz (g := 1) rfl (by omega) hX c1 c2 h1 h2
theorem b_again (hi : i ≤ 600) (ha : B32 a) : BTH i 269 259 [pR 1 0, pI (ii a), p0] 302 [pR 13 819, pI (ii a)] := by
  rintro M X ⟨A, n, Q, k, I, s, D, f, h1, h2, hz⟩ hX
  by_cases hc : 0 ≤ a ∧ a < 2
  · obtain ⟨v, c1, c2⟩ := P_again_y hz (by omega) hc
    exact bth_y hz hz t_le c1 c2 h1 h2
  · obtain ⟨c1, c2⟩ := P_again_n hz ha hc
    exact bth_n hz (g := 1) rfl (by omega) hX c1 c2 h1 h2
theorem b_rate (hi : i ≤ 600) (ha : B32 a) (hb : B32 b) : BTH i 270 260 [pR 1 0, pI (ii a), pI (ii b), p0] 303 [pR 13 819, pI (ii a), pI (ii b), p0, p0] := by
  rintro M X ⟨A, n, Q, k, I, s, D, f, h1, h2, hz⟩ hX
  by_cases hc : ratB A a b
  · obtain ⟨v, c1, c2⟩ := P_rate_y hz (by omega) hc
    exact bth_y hz hz t_le c1 c2 h1 h2
  · obtain ⟨c1, c2⟩ := P_rate_n hz ha hb hc
    exact bth_n hz (g := 1) rfl (by omega) hX c1 c2 h1 h2
theorem b_least (hi : i ≤ 600) (ha : B32 a) (hb : B32 b) : BTH i 271 261 [pR 1 0, pI (ii a), pI (ii b), p0] 308 [pR 13 819, pI (ii a), pI (ii b), p0] := by
  rintro M X ⟨A, n, Q, k, I, s, D, f, h1, h2, hz⟩ hX
  by_cases hc : 0 ≤ a ∧ a < A 0 3
  · by_cases hd : 1 ≤ b ∧ b ≤ 500
    · obtain ⟨v, c1, c2⟩ := P_least_y hz (by omega) hc hd
      exact bth_y hz hz t_le c1 c2 h1 h2
    · obtain ⟨c1, c2⟩ := P_least_2 hz hc hb hd
      exact bth_n hz (g := 2) rfl (by omega) hX c1 c2 h1 h2
  · obtain ⟨c1, c2⟩ := P_least_1 (b := b) hz ha hc
    exact bth_n hz (g := 1) rfl (by omega) hX c1 c2 h1 h2
theorem b_best (hi : i ≤ 600) (ha : B32 a) (hb : B32 b) : BTH i 272 262 [pR 1 0, pI (ii a), pI (ii b), p0, p0, p0] 309 [pR 13 819, pI (ii a), pI (ii b), p0, p0, p0, p0] := by
  rintro M X ⟨A, n, Q, k, I, s, D, f, h1, h2, hz⟩ hX
  by_cases hc : 0 ≤ a ∧ a < A 0 3
  · by_cases hd : 1 ≤ b ∧ b ≤ 200
    · obtain ⟨v, c1, c2⟩ := P_best_y hz (by omega) hc hd
      exact bth_y hz hz t_le c1 c2 h1 h2
    · obtain ⟨c1, c2⟩ := P_best_2 hz hc hb hd
      exact bth_n hz (g := 2) rfl (by omega) hX c1 c2 h1 h2
  · obtain ⟨c1, c2⟩ := P_best_1 (b := b) hz ha hc
    exact bth_n hz (g := 1) rfl (by omega) hX c1 c2 h1 h2
theorem b_with (hi : i ≤ 600) (ha : B32 a) (hb : B32 b) : BTH i 273 263 [pR 1 0, pI (ii a), pI (ii b)] 310 [pR 13 819, pI (ii a), pI (ii b)] := by
  rintro M X ⟨A, n, Q, k, I, s, D, f, h1, h2, hz⟩ hX
  by_cases hc : 0 ≤ a ∧ a < A 0 3
  · by_cases hd : 0 ≤ b ∧ b ≤ 500
    · obtain ⟨v, c1, c2⟩ := P_with_y hz (by omega) hc hd
      exact bth_y hz hz t_le c1 c2 h1 h2
    · obtain ⟨c1, c2⟩ := P_with_2 hz hc hb hd
      exact bth_n hz (g := 2) rfl (by omega) hX c1 c2 h1 h2
  · obtain ⟨c1, c2⟩ := P_with_1 (b := b) hz ha hc
    exact bth_n hz (g := 1) rfl (by omega) hX c1 c2 h1 h2
end BTHS
