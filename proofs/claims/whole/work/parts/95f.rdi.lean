/-! a line more keeps the bounds -/
section LRDI
set_option maxRecDepth 100000
variable {z y a c lo hi v N x fr st k0 b0 wd v2 v3 : Int} {M M' M0 M1 M2 : Mem} {X : PX} {n m i p t b b' d k ne nw ns nc : Nat} {D : Nat → Int} {P : PS} {R R' : Int → Int} {f : Int → Int}
theorem num_v (h : iF (numS D n lo hi P)) : lo ≤ vaS D n P ∧ vaS D n P ≤ hi := by
  cases P with
  | inr q => exact niF h
  | inl b =>
    rw [numS_l] at h
    by_cases c : tK D n b = 2
    · rw [if_pos c] at h
      by_cases c2 : nuV D n b < lo ∨ hi < nuV D n b
      · rw [if_pos c2] at h; exact niF h
      · show lo ≤ nuV D n b ∧ nuV D n b ≤ hi; omega
    · rw [if_neg c] at h; exact niF h
theorem own_v {us : Int → Bool} (h : iF (ownS D n N us P)) : 0 ≤ vaS D n P ∧ vaS D n P ≤ N - 1 := by
  cases P with
  | inr q => exact niF h
  | inl b =>
    rw [ownS_l] at h
    by_cases c : tK D n b = 2
    · rw [if_pos c] at h
      by_cases c1 : us (nuV D n b) = true
      · rw [if_pos c1] at h; exact niF h
      · rw [if_neg c1] at h
        by_cases c2 : nuV D n b < 0 ∨ N - 1 < nuV D n b
        · rw [if_pos c2] at h; exact niF h
        · show 0 ≤ nuV D n b ∧ nuV D n b ≤ N - 1; omega
    · rw [if_neg c] at h; exact niF h
theorem ur_v (P : PS) : 0 ≤ urV D n P ∧ urV D n P ≤ 1 := by
  cases P with
  | inr q => show (0 : Int) ≤ 0 ∧ (0 : Int) ≤ 1; omega
  | inl b =>
    show 0 ≤ (bif wdB D n b 19 then (1 : Int) else 0) ∧ (bif wdB D n b 19 then (1 : Int) else 0) ≤ 1
    cases wdB D n b 19
    · show (0 : Int) ≤ 0 ∧ (0 : Int) ≤ 1; omega
    · show (0 : Int) ≤ 1 ∧ (1 : Int) ≤ 1; omega
theorem BlI_b (h : BlI R) (hk : 1 ≤ k0 ∧ k0 ≤ 4) (hb : 12 ≤ b0 ∧ b0 + wd ≤ 174) (h2 : ∀ e : Nat, e < 6 → (b0 ≤ 14 + 5 * e → 14 + 5 * (e : Int) < b0 + wd → f (14 + 5 * e - b0) = 0) ∧ (b0 ≤ 16 + 5 * e → 16 + 5 * (e : Int) < b0 + wd → f (16 + 5 * e - b0) = 0)) (h3 : ∀ w : Nat, w < 8 → b0 ≤ 44 + 3 * w → 44 + 3 * (w : Int) < b0 + wd → f (44 + 3 * w - b0) = 0) (h4 : ∀ s : Nat, s < 6 → ∀ k : Int, 4 ≤ k → k ≤ 9 → b0 ≤ 66 + 10 * s + k → 66 + 10 * s + k < b0 + wd → f (66 + 10 * s + k - b0) = 0) : BlI (blk R k0 ne b0 wd f) := by
  obtain ⟨g1, g2, g3, g4, g5⟩ := h
  have ba : ∀ z, 12 ≤ z → R z = 0 → (b0 ≤ z → z < b0 + wd → f (z - b0) = 0) → blk R k0 ne b0 wd f z = 0 := by
    intro z z1 z2 z3
    by_cases c : b0 ≤ z ∧ z < b0 + wd
    · rw [blk_i (by omega) c.1 c.2]; exact z3 c.1 c.2
    · rw [blk_o (by omega) (by omega)]; exact z2
  refine ⟨fun k k1 k2 => ?_, fun e he => ?_, fun w hw => ?_, fun s hs k k1 k2 => ?_, fun z z1 z2 => ?_⟩
  · rw [blk_o (by omega) (by omega)]; exact g1 k k1 k2
  · exact ⟨ba _ (by omega) (g2 e he).1 (h2 e he).1, ba _ (by omega) (g2 e he).2 (h2 e he).2⟩
  · exact ba _ (by omega) (g3 w hw) (h3 w hw)
  · exact ba _ (by omega) (g4 s hs k k1 k2) (h4 s hs k k1 k2)
  · rw [blk_o (by omega) (by omega)]; exact g5 z z1 z2
theorem xI (hi : RdI R) (hne : R 1 = ne) (hw : iF (xP3 D n b ne R)) : RdI (xRo D n b ne R) := by
  have e1 := iF_num hw
  have e0 := iF_own e1
  have h6 := (iF_one e0).1
  have v1 := own_v e1
  have v2 := num_v hw
  obtain ⟨g, ge, gw, gs, gc, gb⟩ := hi
  have ro : ∀ z : Int, z ≠ 1 → (z < 12 + 5 * ne ∨ 12 + 5 * ne + 5 ≤ z) → xRo D n b ne R z = R z := fun z => blk_o
  have r1 : xRo D n b ne R 1 = ne + 1 := blk_k
  refine ⟨?_, fun e he => ?_, fun w hw => ?_, fun s hs => ?_, fun c hc => ?_, ?_⟩
  · rw [r1, ro 0 (by omega) (by omega), ro 2 (by omega) (by omega), ro 3 (by omega) (by omega), ro 4 (by omega) (by omega), ro 9 (by omega) (by omega)]
    omega
  · rw [r1] at he
    rw [ro 0 (by omega) (by omega)]
    by_cases k : e = ne
    · subst k
      unfold xRo
      rw [blk_i (by omega) (by omega) (by omega), blk_i (by omega) (by omega) (by omega), blk_i (by omega) (by omega) (by omega)]
      unfold xFu
      rw [if_pos (by omega), if_neg (by omega), if_pos (by omega), if_neg (by omega), if_neg (by omega), if_pos (by omega)]
      omega
    · rw [ro _ (by omega) (by omega), ro _ (by omega) (by omega), ro _ (by omega) (by omega)]
      exact ge e (by omega)
  · rw [ro 2 (by omega) (by omega)] at hw
    have := gw w hw
    rw [r1, ro _ (by omega) (by omega), ro _ (by omega) (by omega)]
    omega
  · rw [ro 3 (by omega) (by omega)] at hs
    rw [ro 0 (by omega) (by omega), ro _ (by omega) (by omega), ro _ (by omega) (by omega), ro _ (by omega) (by omega), ro _ (by omega) (by omega)]
    exact gs s hs
  · rw [ro 4 (by omega) (by omega)] at hc
    rw [ro 2 (by omega) (by omega), ro 3 (by omega) (by omega), ro _ (by omega) (by omega), ro _ (by omega) (by omega), ro _ (by omega) (by omega), ro _ (by omega) (by omega)]
    exact gc c hc
  · refine BlI_b gb (by omega) (by omega) (fun e he => ⟨fun k1 k2 => ?_, fun k1 k2 => ?_⟩) (fun w hw k1 k2 => by omega) (fun s hs k k1 k2 k3 k4 => by omega)
    · unfold xFu; rw [if_neg (by omega), if_neg (by omega), if_neg (by omega)]
    · unfold xFu; rw [if_neg (by omega), if_neg (by omega), if_neg (by omega)]
theorem waI (hi : RdI R) (hk : R 2 = k) (hw : iF (waP3 D n b k R)) : RdI (waRo D n b k R) := by
  have e1 := iF_ur hw
  have e0 := iF_num e1
  have h6 := (iF_one e0).1
  have v1 := num_v e1
  have v2 := ur_v (D := D) (n := n) (waP2 D n b k R)
  obtain ⟨g, ge, gw, gs, gc, gb⟩ := hi
  have ro : ∀ z : Int, z ≠ 2 → (z < 42 + 3 * k ∨ 42 + 3 * k + 3 ≤ z) → waRo D n b k R z = R z := fun z => blk_o
  have r1 : waRo D n b k R 2 = k + 1 := blk_k
  refine ⟨?_, fun e he => ?_, fun w hw => ?_, fun s hs => ?_, fun c hc => ?_, ?_⟩
  · rw [r1, ro 0 (by omega) (by omega), ro 1 (by omega) (by omega), ro 3 (by omega) (by omega), ro 4 (by omega) (by omega), ro 9 (by omega) (by omega)]
    omega
  · rw [ro 1 (by omega) (by omega)] at he
    rw [ro 0 (by omega) (by omega), ro _ (by omega) (by omega), ro _ (by omega) (by omega), ro _ (by omega) (by omega)]
    exact ge e he
  · rw [r1] at hw
    rw [ro 1 (by omega) (by omega)]
    by_cases q : w = k
    · subst q
      unfold waRo
      rw [blk_i (by omega) (by omega) (by omega), blk_i (by omega) (by omega) (by omega)]
      unfold waFu
      rw [if_pos (by omega), if_neg (by omega), if_pos (by omega)]
      omega
    · rw [ro _ (by omega) (by omega), ro _ (by omega) (by omega)]
      exact gw w (by omega)
  · rw [ro 3 (by omega) (by omega)] at hs
    rw [ro 0 (by omega) (by omega), ro _ (by omega) (by omega), ro _ (by omega) (by omega), ro _ (by omega) (by omega), ro _ (by omega) (by omega)]
    exact gs s hs
  · rw [ro 4 (by omega) (by omega)] at hc
    have := gc c hc
    rw [r1, ro 3 (by omega) (by omega), ro _ (by omega) (by omega), ro _ (by omega) (by omega), ro _ (by omega) (by omega), ro _ (by omega) (by omega)]
    omega
  · refine BlI_b gb (by omega) (by omega) (fun e he => ⟨fun k1 k2 => by omega, fun k1 k2 => by omega⟩) (fun w hw k1 k2 => ?_) (fun s hs k k1 k2 k3 k4 => by omega)
    unfold waFu; rw [if_neg (by omega), if_neg (by omega)]
theorem sI (hi : RdI R) (hk : R 3 = k) (hw : iF (sP5 D n b k R)) : RdI (sRo D n b k R) := by
  have e3 := iF_num hw
  have e2 := iF_num e3
  have e1 := iF_num e2
  have e0 := iF_own e1
  have h6 := (iF_one e0).1
  have v1 := own_v e1
  have v2 := num_v e2
  have v3 := num_v e3
  have v4 := num_v hw
  obtain ⟨g, ge, gw, gs, gc, gb⟩ := hi
  have ro : ∀ z : Int, z ≠ 3 → (z < 66 + 10 * k ∨ 66 + 10 * k + 10 ≤ z) → sRo D n b k R z = R z := fun z => blk_o
  have r1 : sRo D n b k R 3 = k + 1 := blk_k
  refine ⟨?_, fun e he => ?_, fun w hw => ?_, fun s hs => ?_, fun c hc => ?_, ?_⟩
  · rw [r1, ro 0 (by omega) (by omega), ro 1 (by omega) (by omega), ro 2 (by omega) (by omega), ro 4 (by omega) (by omega), ro 9 (by omega) (by omega)]
    omega
  · rw [ro 1 (by omega) (by omega)] at he
    rw [ro 0 (by omega) (by omega), ro _ (by omega) (by omega), ro _ (by omega) (by omega), ro _ (by omega) (by omega)]
    exact ge e he
  · rw [ro 2 (by omega) (by omega)] at hw
    rw [ro 1 (by omega) (by omega), ro _ (by omega) (by omega), ro _ (by omega) (by omega)]
    exact gw w hw
  · rw [r1] at hs
    rw [ro 0 (by omega) (by omega)]
    by_cases q : s = k
    · subst q
      unfold sRo
      rw [blk_i (by omega) (by omega) (by omega), blk_i (by omega) (by omega) (by omega), blk_i (by omega) (by omega) (by omega), blk_i (by omega) (by omega) (by omega)]
      unfold sFu
      rw [if_pos (by omega), if_neg (by omega), if_pos (by omega), if_neg (by omega), if_neg (by omega), if_pos (by omega), if_neg (by omega), if_neg (by omega), if_neg (by omega), if_pos (by omega)]
      omega
    · rw [ro _ (by omega) (by omega), ro _ (by omega) (by omega), ro _ (by omega) (by omega), ro _ (by omega) (by omega)]
      exact gs s (by omega)
  · rw [ro 4 (by omega) (by omega)] at hc
    have := gc c hc
    rw [r1, ro 2 (by omega) (by omega), ro _ (by omega) (by omega), ro _ (by omega) (by omega), ro _ (by omega) (by omega), ro _ (by omega) (by omega)]
    omega
  · refine BlI_b gb (by omega) (by omega) (fun e he => ⟨fun k1 k2 => by omega, fun k1 k2 => by omega⟩) (fun w hw k1 k2 => by omega) (fun s hs k k1 k2 k3 k4 => ?_)
    unfold sFu; rw [if_neg (by omega), if_neg (by omega), if_neg (by omega), if_neg (by omega)]
theorem cI (hi : RdI R) (hk : R 4 = k) (hw : iF (cP5 D n b k R)) : RdI (cRo D n b k R) := by
  have e3 := iF_num hw
  have e2 := iF_num e3
  have e1 := iF_num e2
  have e0 := iF_num e1
  have h6 := (iF_one e0).1
  have v1 := num_v e1
  have v2 := num_v e2
  have v3 := num_v e3
  have v4 := num_v hw
  obtain ⟨g, ge, gw, gs, gc, gb⟩ := hi
  have ro : ∀ z : Int, z ≠ 4 → (z < 126 + 4 * k ∨ 126 + 4 * k + 4 ≤ z) → cRo D n b k R z = R z := fun z => blk_o
  have r1 : cRo D n b k R 4 = k + 1 := blk_k
  refine ⟨?_, fun e he => ?_, fun w hw => ?_, fun s hs => ?_, fun c hc => ?_, ?_⟩
  · rw [r1, ro 0 (by omega) (by omega), ro 1 (by omega) (by omega), ro 2 (by omega) (by omega), ro 3 (by omega) (by omega), ro 9 (by omega) (by omega)]
    omega
  · rw [ro 1 (by omega) (by omega)] at he
    rw [ro 0 (by omega) (by omega), ro _ (by omega) (by omega), ro _ (by omega) (by omega), ro _ (by omega) (by omega)]
    exact ge e he
  · rw [ro 2 (by omega) (by omega)] at hw
    rw [ro 1 (by omega) (by omega), ro _ (by omega) (by omega), ro _ (by omega) (by omega)]
    exact gw w hw
  · rw [ro 3 (by omega) (by omega)] at hs
    rw [ro 0 (by omega) (by omega), ro _ (by omega) (by omega), ro _ (by omega) (by omega), ro _ (by omega) (by omega), ro _ (by omega) (by omega)]
    exact gs s hs
  · rw [r1] at hc
    rw [ro 2 (by omega) (by omega), ro 3 (by omega) (by omega)]
    by_cases q : c = k
    · subst q
      unfold cRo
      rw [blk_i (by omega) (by omega) (by omega), blk_i (by omega) (by omega) (by omega), blk_i (by omega) (by omega) (by omega), blk_i (by omega) (by omega) (by omega)]
      unfold cFu
      rw [if_pos (by omega), if_neg (by omega), if_pos (by omega), if_neg (by omega), if_neg (by omega), if_pos (by omega), if_neg (by omega), if_neg (by omega), if_neg (by omega), if_pos (by omega)]
      omega
    · rw [ro _ (by omega) (by omega), ro _ (by omega) (by omega), ro _ (by omega) (by omega), ro _ (by omega) (by omega)]
      exact gc c (by omega)
  · exact BlI_b gb (by omega) (by omega) (fun e he => ⟨fun k1 k2 => by omega, fun k1 k2 => by omega⟩) (fun w hw k1 k2 => by omega) (fun s hs k k1 k2 k3 k4 => by omega)
theorem RdI_9 (hi : RdI R) (h : ∀ z, z ≠ 9 → z ≠ 10 → R' z = R z) (h9 : 0 ≤ R' 9 ∧ R' 9 ≤ 1) : RdI R' := by
  obtain ⟨g, ge, gw, gs, gc, g1, g2, g3, g4, g5⟩ := hi
  refine ⟨?_, fun e he => ?_, fun w hw => ?_, fun s hs => ?_, fun c hc => ?_, fun k k1 k2 => ?_, fun e he => ?_, fun w hw => ?_, fun s hs k k1 k2 => ?_, fun z z1 z2 => ?_⟩
  · rw [h 0 (by omega) (by omega), h 1 (by omega) (by omega), h 2 (by omega) (by omega), h 3 (by omega) (by omega), h 4 (by omega) (by omega)]
    omega
  · rw [h 1 (by omega) (by omega)] at he
    rw [h 0 (by omega) (by omega), h _ (by omega) (by omega), h _ (by omega) (by omega), h _ (by omega) (by omega)]
    exact ge e he
  · rw [h 2 (by omega) (by omega)] at hw
    rw [h 1 (by omega) (by omega), h _ (by omega) (by omega), h _ (by omega) (by omega)]
    exact gw w hw
  · rw [h 3 (by omega) (by omega)] at hs
    rw [h 0 (by omega) (by omega), h _ (by omega) (by omega), h _ (by omega) (by omega), h _ (by omega) (by omega), h _ (by omega) (by omega)]
    exact gs s hs
  · rw [h 4 (by omega) (by omega)] at hc
    rw [h 2 (by omega) (by omega), h 3 (by omega) (by omega), h _ (by omega) (by omega), h _ (by omega) (by omega), h _ (by omega) (by omega), h _ (by omega) (by omega)]
    exact gc c hc
  · rw [h _ (by omega) (by omega)]; exact g1 k k1 k2
  · rw [h _ (by omega) (by omega), h _ (by omega) (by omega)]; exact g2 e he
  · rw [h _ (by omega) (by omega)]; exact g3 w hw
  · rw [h _ (by omega) (by omega)]; exact g4 s hs k k1 k2
  · rw [h _ (by omega) (by omega)]; exact g5 z z1 z2
end LRDI
