/-! ===== the class's church, tied to the world ===== -/
section CCs
/-- the church whose cells begin at c is the world w -/
def CH (D : mx_D) (c : Nat) (w : W_) : Prop :=
  (D c 0 = w 0 ∧ D c 1 = w 1 ∧ D c 2 = w 2 ∧ D c 3 = w 3 ∧ D c 4 = w 7 ∧ D c 10 = w 5 ∧ D c 12 = w 6 ∧ D (c + 5) 6 = w 4) ∧
  (∀ j, j < 4 → D (c + 1) j = w (8 + 3 * j) ∧ D (c + 2) j = w (8 + 3 * j + 1) ∧ D (c + 3) j = w (8 + 3 * j + 2)) ∧
  (∀ j, j < 20 → D (c + 4) j = w (20 + j)) ∧
  (∀ x, x < nA w → D (c + 6) x = w (40 + 6 * x) ∧ D (c + 7) x = w (40 + 6 * x + 1) ∧ D (c + 8) x = w (40 + 6 * x + 2) ∧ D (c + 9) x = w (40 + 6 * x + 3) ∧ D (c + 10) x = w (40 + 6 * x + 4) ∧ D (c + 11) x = w (40 + 6 * x + 5)) ∧
  (∀ x, x < nH w → D (c + 12) x = w (88 + x)) ∧
  (∀ b, b < nB w → D (c + 13) b = w (96 + 2 * b) ∧ D (c + 14) b = w (96 + 2 * b + 1))
/-- other stores with the same cells -/
theorem CH_of {D D' : mx_D} {c : Nat} {w : W_} (h : CH D c w) (e : ∀ k, c ≤ k → k < c + 15 → D' k = D k) : CH D' c w := by
  unfold CH at h ⊢
  rw [e c (by omega) (by omega), e (c + 1) (by omega) (by omega), e (c + 2) (by omega) (by omega), e (c + 3) (by omega) (by omega), e (c + 4) (by omega) (by omega), e (c + 5) (by omega) (by omega), e (c + 6) (by omega) (by omega), e (c + 7) (by omega) (by omega), e (c + 8) (by omega) (by omega), e (c + 9) (by omega) (by omega), e (c + 10) (by omega) (by omega), e (c + 11) (by omega) (by omega), e (c + 12) (by omega) (by omega), e (c + 13) (by omega) (by omega), e (c + 14) (by omega) (by omega)]
  exact h
def CC (D : mx_D) (w : W_) : Prop := CH D 19 w
variable {D : mx_D} {w : W_} {F : Nat}
theorem c_0 (h : CC D w) : D 19 0 = w 0 := h.1.1
theorem c_1 (h : CC D w) : D 19 1 = w 1 := h.1.2.1
theorem c_2 (h : CC D w) : D 19 2 = w 2 := h.1.2.2.1
theorem c_3 (h : CC D w) : D 19 3 = w 3 := h.1.2.2.2.1
theorem c_4 (h : CC D w) : D 19 4 = w 7 := h.1.2.2.2.2.1
theorem c_10 (h : CC D w) : D 19 10 = w 5 := h.1.2.2.2.2.2.1
theorem c_12 (h : CC D w) : D 19 12 = w 6 := h.1.2.2.2.2.2.2.1
theorem c_24 (h : CC D w) : D 24 6 = w 4 := h.1.2.2.2.2.2.2.2
theorem c_20 (h : CC D w) {j : Nat} (hj : j < 4) : D 20 j = w (8 + 3 * j) := (h.2.1 j hj).1
theorem c_21 (h : CC D w) {j : Nat} (hj : j < 4) : D 21 j = w (8 + 3 * j + 1) := (h.2.1 j hj).2.1
theorem c_22 (h : CC D w) {j : Nat} (hj : j < 4) : D 22 j = w (8 + 3 * j + 2) := (h.2.1 j hj).2.2
theorem c_23 (h : CC D w) {j : Nat} (hj : j < 20) : D 23 j = w (20 + j) := h.2.2.1 j hj
theorem c_25 (h : CC D w) {x : Nat} (hx : x < nA w) : D 25 x = w (40 + 6 * x) := (h.2.2.2.1 x hx).1
theorem c_26 (h : CC D w) {x : Nat} (hx : x < nA w) : D 26 x = w (40 + 6 * x + 1) := (h.2.2.2.1 x hx).2.1
theorem c_27 (h : CC D w) {x : Nat} (hx : x < nA w) : D 27 x = w (40 + 6 * x + 2) := (h.2.2.2.1 x hx).2.2.1
theorem c_28 (h : CC D w) {x : Nat} (hx : x < nA w) : D 28 x = w (40 + 6 * x + 3) := (h.2.2.2.1 x hx).2.2.2.1
theorem c_29 (h : CC D w) {x : Nat} (hx : x < nA w) : D 29 x = w (40 + 6 * x + 4) := (h.2.2.2.1 x hx).2.2.2.2.1
theorem c_30 (h : CC D w) {x : Nat} (hx : x < nA w) : D 30 x = w (40 + 6 * x + 5) := (h.2.2.2.1 x hx).2.2.2.2.2
theorem c_31 (h : CC D w) {x : Nat} (hx : x < nH w) : D 31 x = w (88 + x) := h.2.2.2.2.1 x hx
theorem c_32 (h : CC D w) {b : Nat} (hb : b < nB w) : D 32 b = w (96 + 2 * b) := (h.2.2.2.2.2 b hb).1
theorem c_33 (h : CC D w) {b : Nat} (hb : b < nB w) : D 33 b = w (96 + 2 * b + 1) := (h.2.2.2.2.2 b hb).2
/-- 0 up to n less 1 -/
theorem has_s (a : Int32) {n : Nat} (hn : n < 2 ^ 31) : (if a < 0 then nI 0 else if nI n ≤ a then nI 0 else nI 1) = b01 (vx a n) := by
  rcases vx_c a n hn with h | ⟨j, hj, rfl⟩
  · rw [h]
    have := vx_no h
    by_cases h1 : a < 0
    · rw [if_pos h1]
      rfl
    · rw [if_neg h1]
      rw [Int32.lt_iff_toInt_lt] at h1
      have h0 : (0 : Int32).toInt = 0 := by decide
      rw [if_pos (by rw [Int32.le_iff_toInt_le, nI_toInt hn]; omega)]
      rfl
  · rw [vx_nI (by omega), decide_eq_true hj, if_neg (nI_pos (by omega)), if_neg (nI_ge hj hn)]
    rfl
theorem C_hasPew_s (h : CC D w) (hw : WF w) (a : Int32) : g_Church_hasPew D a = b01 (vx a (nP w)) := by
  have := wf_P4 hw
  unfold g_Church_hasPew
  rw [c_0 h, wf_P hw, has_s a (by omega)]
theorem C_hasPerson_s (h : CC D w) (hw : WF w) (a : Int32) : g_Church_hasPerson D a = b01 (vx a (nA w)) := by
  have := wf_A8 hw
  unfold g_Church_hasPerson
  rw [c_24 h, wf_A hw, has_s a (by omega)]
theorem C_hasHat_s (h : CC D w) (hw : WF w) (a : Int32) : g_Church_hasHat D a = b01 (vx a (nH w)) := by
  have := wf_H8 hw
  unfold g_Church_hasHat
  rw [c_10 h, wf_H hw, has_s a (by omega)]
theorem C_hasBook_s (h : CC D w) (hw : WF w) (a : Int32) : g_Church_hasBook D a = b01 (vx a (nB w)) := by
  have := wf_B5 hw
  unfold g_Church_hasBook
  rw [c_12 h, wf_B hw, has_s a (by omega)]
theorem C_hasPlace_s (h : CC D w) (hw : WF w) (a b : Int32) : g_Church_hasPlace D a b = b01 (vx a (nP w) && vx b (nL w)) := by
  have h4 := wf_P4 hw
  have h5 := wf_L5 hw
  have e1 := has_s a (n := nP w) (by omega)
  have e2 := has_s b (n := nL w) (by omega)
  unfold g_Church_hasPlace
  rw [c_0 h, c_1 h, wf_P hw, wf_L hw, e2]
  cases hv : vx a (nP w)
  · rw [hv] at e1
    by_cases q1 : a < 0
    · rw [if_pos q1]
      rfl
    · rw [if_neg q1] at e1 ⊢
      by_cases q2 : nI (nP w) ≤ a
      · rw [if_pos q2]
        rfl
      · rw [if_neg q2] at e1
        exact absurd e1 (by decide)
  · rw [hv] at e1
    by_cases q1 : a < 0
    · rw [if_pos q1] at e1
      exact absurd e1 (by decide)
    · rw [if_neg q1] at e1 ⊢
      by_cases q2 : nI (nP w) ≤ a
      · rw [if_pos q2] at e1
        exact absurd e1 (by decide)
      · rw [if_neg q2, Bool.true_and]
theorem C_isThere_s (h : CC D w) (hw : WF w) : g_Church_isThere D = b01 (decide (0 < nP w)) := by
  have h1 := wf_N14 hw
  have h2 := wf_NP hw
  unfold g_Church_isThere
  rw [c_4 h, wf_N hw]
  by_cases q : 0 < nN w
  · rw [if_neg (nI_nle q (by omega)), decide_eq_true (h2.mpr q)]
    rfl
  · have e : nN w = 0 := by omega
    rw [if_pos (by rw [e]; decide), decide_eq_false (fun z => q (h2.mp z))]
    rfl
theorem C_isSeated_s (h : CC D w) (hw : WF w) (a : Int32) : g_Church_isSeated D a = some (b01 (vx a (nA w) && st w a.toNatClampNeg)) := by
  have h8 := wf_A8 hw
  unfold g_Church_isSeated
  rw [C_hasPerson_s h hw]
  simp only [b01_z]
  rcases vx_c a (nA w) (by omega) with h1 | ⟨x, hx, rfl⟩
  · rw [h1]
    rfl
  · rw [vx_nI (by omega), decide_eq_true hx, if_neg (by decide), rk_in (by omega) (by decide), nI_clamp (by omega), c_28 h hx]
    unfold st
    by_cases q : w (40 + 6 * x + 3) = -1
    · rw [if_pos q]
      simp [q]
      rfl
    · rw [if_neg q]
      simp [q]
      rfl
theorem C_seat_s (h : CC D w) (hw : WF w) {x : Nat} (hx : x < nA w) : g_Church_isSeated D (nI x) = some (b01 (st w x)) := by
  have h8 := wf_A8 hw
  rw [C_isSeated_s h hw, vx_nI (by omega), decide_eq_true hx, nI_clamp (by omega)]
  rfl
theorem C_trenchAt_s (h : CC D w) (hw : WF w) {p i : Nat} (hp : p < nP w) (hi : i < nL w) : g_Church_trenchAt D (nI p) (nI i) = some (w (20 + 5 * p + i)) := by
  have h4 := wf_P4 hw
  have h5 := wf_L5 hw
  unfold g_Church_trenchAt
  rw [C_hasPlace_s h hw, vx_nI (by omega), vx_nI (by omega), decide_eq_true hp, decide_eq_true hi, if_neg (by decide), pk_mul, nI_add, rk_in (by omega) (by decide), nI_clamp (by omega), c_23 h (by omega), show 20 + (p * 5 + i) = 20 + 5 * p + i by omega]
theorem C_floorAt_s (h : CC D w) (hw : WF w) {p i : Nat} (hp : p < nP w) (hi : i < nL w) : g_Church_floorAt D (nI p) (nI i) = some (iI (flo w p i)) := by
  have h4 := wf_P4 hw
  have h5 := wf_L5 hw
  unfold g_Church_floorAt
  rw [C_hasPlace_s h hw, vx_nI (by omega), vx_nI (by omega), decide_eq_true hp, decide_eq_true hi, if_neg (by decide), pk_mul, nI_add, rk_in (by omega) (by decide), rk_in (by omega) (by decide), rk_in (by omega) (by decide), nI_clamp (by omega), nI_clamp (by omega), c_20 h (by omega), c_23 h (by omega), c_22 h (by omega), show 20 + (p * 5 + i) = 20 + 5 * p + i by omega]
  unfold flo
  rw [ti_at w (8 + 3 * p), ti_at w (8 + 3 * p + 2), ti_at w (20 + 5 * p + i), iI_sub, iI_sub]
  congr 2
  omega
theorem C_floorUnder_s (h : CC D w) (hw : WF w) {x : Nat} (hx : x < nA w) : g_Church_floorUnder D (nI x) = some (iI (if st w x = true then flo w (pw w x) (pc w x) else 0)) := by
  have h8 := wf_A8 hw
  unfold g_Church_floorUnder
  rw [C_seat_s h hw hx, ob_some]
  simp only [b01_z]
  cases hs : st w x
  · rfl
  · obtain ⟨h1, h2, h3, h4⟩ := wf_sit hw hx hs
    rw [if_neg (by decide), if_pos rfl, rk_in (by omega) (by decide), rk_in (by omega) (by decide), nI_clamp (by omega), c_28 h hx, c_29 h hx, h1, h3, C_floorAt_s h hw h2 h4, ob_some]
theorem C_bookHigh_s (hF : 100 ≤ F) (h : CC D w) (hw : WF w) (a : Int32) : g_Church_bookHighUnder F D a = some (iI (bks w a)) := by
  have h8 := wf_B5 hw
  unfold g_Church_bookHighUnder bks
  refine lu0 (fun f b => g_Church_bookHighUnder_4 F D f a (iI (fo (fun b s => s + (if w (96 + 2 * b + 1) = a then ti w (96 + 2 * b) else 0)) 0 b)) (nI b)) (n := nB w) _ (by omega) (fun f b hb => ?_) (fun f => ?_)
  · rw [s_Church_bookHighUnder_4]
    unfold b_Church_bookHighUnder_4
    rw [c_12 h, wf_B hw, if_neg (nI_ge hb (by omega)), rk_in (by omega) (by decide), rk_in (by omega) (by decide), nI_clamp (by omega), c_33 h hb, c_32 h hb, fo_s, nI_add]
    by_cases hp : w (96 + 2 * b + 1) = a
    · rw [if_pos hp, if_pos hp, ti_at w (96 + 2 * b), iI_add]
    · rw [if_neg hp, if_neg hp, Int.add_zero]
  · rw [s_Church_bookHighUnder_4]
    unfold b_Church_bookHighUnder_4
    rw [c_12 h, wf_B hw, if_pos (nI_le (Nat.le_refl _) (by omega))]
theorem C_hatHigh_s (h : CC D w) (hw : WF w) {x : Nat} (hx : x < nA w) : g_Church_hatHighOf D (nI x) = some (iI (hat w x)) := by
  have h8 := wf_A8 hw
  have hH := wf_H8 hw
  unfold g_Church_hatHighOf hat
  rw [C_hasPerson_s h hw, vx_nI (by omega), decide_eq_true hx, if_neg (by decide), rk_in (by omega) (by decide), nI_clamp (by omega), c_30 h hx, C_hasHat_s h hw]
  rcases wf_ht hw hx with q | q
  · rw [q, if_pos rfl]
    have : vx (-1) (nH w) = false := by
      unfold vx
      rw [show (-1 : Int32).toInt = -1 by decide]
      rfl
    rw [this]
    rfl
  · rw [q.1, if_neg (nI_m1 (by omega)), vx_nI (by omega), decide_eq_true q.2, if_neg (by decide), rk_in (by omega) (by decide), rk_in (by omega) (by decide), nI_clamp (by omega), c_31 h q.2, ← ti_at]
theorem C_bodyHigh_s (h : CC D w) (hw : WF w) {x : Nat} (hx : x < nA w) (y : Nat) : g_Church_bodyHigh D (nI x) (nI y) = some (iI (ti w (40 + 6 * x) + y * ti w (40 + 6 * x + 1) + ti w (40 + 6 * x + 2))) := by
  have h8 := wf_A8 hw
  unfold g_Church_bodyHigh
  rw [C_hasPerson_s h hw, vx_nI (by omega), decide_eq_true hx, if_neg (by decide), rk_in (by omega) (by decide), rk_in (by omega) (by decide), rk_in (by omega) (by decide), nI_clamp (by omega), c_25 h hx, c_26 h hx, c_27 h hx, ti_at w (40 + 6 * x), ti_at w (40 + 6 * x + 1), ti_at w (40 + 6 * x + 2), iI_nI y, iI_mul, iI_add, iI_add]
theorem C_standing_s (hF : 100 ≤ F) (h : CC D w) (hw : WF w) {x : Nat} (hx : x < nA w) (y : Nat) : g_Church_standingHigh F D (nI x) (nI y) = some (iI (bod w y x)) := by
  unfold g_Church_standingHigh bod
  rw [C_bodyHigh_s h hw hx, ob_some, C_hatHigh_s h hw hx, ob_some, C_bookHigh_s hF h hw, ob_some, iI_add, iI_add]
theorem C_highOf_s (hF : 100 ≤ F) (h : CC D w) (hw : WF w) {x : Nat} (hx : x < nA w) (y : Nat) : g_Church_highOf F D (nI x) (nI y) = some (iI (hi w y x)) := by
  unfold g_Church_highOf hi
  rw [C_standing_s hF h hw hx, ob_some, C_floorUnder_s h hw hx, ob_some, iI_add]
theorem C_sitters_s (hF : 100 ≤ F) (h : CC D w) (hw : WF w) : g_Church_sitters F D = some (nI (sM w)) := by
  have h8 := wf_A8 hw
  unfold g_Church_sitters
  refine lu0 (fun f a => g_Church_sitters_4 F D f (nI (mk (fun x => st w x) a)) (nI a)) (n := nA w) _ (by omega) (fun f a ha => ?_) (fun f => ?_)
  · rw [s_Church_sitters_4]
    unfold b_Church_sitters_4
    rw [c_24 h, wf_A hw, if_neg (nI_ge ha (by omega)), C_seat_s h hw ha, ob_some, mk_s, nb_shl a (by omega), nb_or, nI_add]
    simp only [b01_z]
    cases st w a
    · simp
    · rfl
  · rw [s_Church_sitters_4]
    unfold b_Church_sitters_4
    rw [c_24 h, wf_A hw, if_pos (nI_le (Nat.le_refl _) (by omega))]
    rfl
theorem C_sittersOf_s (hF : 100 ≤ F) (h : CC D w) (hw : WF w) {p : Nat} (hp : p < 2 ^ 31) : g_Church_sittersOf F D (nI p) = some (nI (pM w p)) := by
  have h8 := wf_A8 hw
  unfold g_Church_sittersOf
  refine lu0 (fun f a => g_Church_sittersOf_4 F D f (nI p) (nI (mk (fun x => decide (w (40 + 6 * x + 3) = nI p)) a)) (nI a)) (n := nA w) _ (by omega) (fun f a ha => ?_) (fun f => ?_)
  · rw [s_Church_sittersOf_4]
    unfold b_Church_sittersOf_4
    rw [c_24 h, wf_A hw, if_neg (nI_ge ha (by omega)), C_seat_s h hw ha, ob_some, mk_s, nb_shl a (by omega), nb_or, nI_add, rk_in (by omega) (by decide), nI_clamp (by omega), c_28 h ha]
    simp only [b01_z]
    cases hs : st w a
    · have := (wf_nsit hw ha hs).1
      rw [if_pos rfl, this, decide_eq_false (fun e => nI_m1 hp e.symm)]
      simp
    · rw [if_neg (by decide)]
      by_cases q : w (40 + 6 * a + 3) = nI p
      · simp [q]
      · simp [q]
  · rw [s_Church_sittersOf_4]
    unfold b_Church_sittersOf_4
    rw [c_24 h, wf_A hw, if_pos (nI_le (Nat.le_refl _) (by omega))]
    rfl
theorem C_sitterAt_s (hF : 100 ≤ F) (h : CC D w) (hw : WF w) {p : Nat} (hp : p < 2 ^ 31) (i : Int32) : g_Church_sitterAt F D (nI p) i = some (sat w (nI p) i) := by
  have h8 := wf_A8 hw
  unfold g_Church_sitterAt sat
  refine lff0 _ (fun f a => g_Church_sitterAt_2 F D f (nI p) i (nI a)) (n := nA w) (by omega) (fun f a ha => ?_) (fun f => ?_)
  · rw [s_Church_sitterAt_2]
    unfold b_Church_sitterAt_2
    rw [c_24 h, wf_A hw, if_neg (nI_ge ha (by omega)), C_seat_s h hw ha, ob_some, rk_in (by omega) (by decide), rk_in (by omega) (by decide), nI_clamp (by omega), c_28 h ha, c_29 h ha, nI_add]
    simp only [b01_z]
    cases hs : st w a
    · have := (wf_nsit hw ha hs).1
      rw [if_pos rfl, this, decide_eq_false (fun e => nI_m1 hp e.symm)]
      simp
    · rw [if_neg (by decide)]
      by_cases q : w (40 + 6 * a + 3) = nI p
      · rw [if_pos q]
        by_cases q2 : w (40 + 6 * a + 4) = i
        · simp [q, q2]
        · simp [q2]
      · simp [q]
  · rw [s_Church_sitterAt_2]
    unfold b_Church_sitterAt_2
    rw [c_24 h, wf_A hw, if_pos (nI_le (Nat.le_refl _) (by omega))]
theorem C_booksUnder_s (hF : 100 ≤ F) (h : CC D w) (hw : WF w) (a : Int32) : g_Church_booksUnder F D a = some (nI (mk (fun b => decide (w (96 + 2 * b + 1) = a)) (nB w))) := by
  have h8 := wf_B5 hw
  unfold g_Church_booksUnder
  refine lu0 (fun f b => g_Church_booksUnder_4 F D f a (nI (mk (fun b => decide (w (96 + 2 * b + 1) = a)) b)) (nI b)) (n := nB w) _ (by omega) (fun f b hb => ?_) (fun f => ?_)
  · rw [s_Church_booksUnder_4]
    unfold b_Church_booksUnder_4
    rw [c_12 h, wf_B hw, if_neg (nI_ge hb (by omega)), rk_in (by omega) (by decide), nI_clamp (by omega), c_33 h hb, mk_s, nb_shl b (by omega), nb_or, nI_add]
    by_cases q : w (96 + 2 * b + 1) = a
    · simp [q]
    · simp [q]
  · rw [s_Church_booksUnder_4]
    unfold b_Church_booksUnder_4
    rw [c_12 h, wf_B hw, if_pos (nI_le (Nat.le_refl _) (by omega))]
theorem bitC : ∀ m, m < 256 → g_Integer_bitCount (nI m) = nI (bc m) := by decide +kernel
theorem C_sawnTogether_s (hF : 100 ≤ F) (h : CC D w) (hw : WF w) : g_Church_sawnTogether F D = some (iI (fo (fun j s => s + ti w (8 + 3 * j + 2)) 0 (nP w))) := by
  have h8 := wf_P4 hw
  unfold g_Church_sawnTogether
  refine lu0 (fun f j => g_Church_sawnTogether_4 F D f (iI (fo (fun j s => s + ti w (8 + 3 * j + 2)) 0 j)) (nI j)) (n := nP w) _ (by omega) (fun f j hj => ?_) (fun f => ?_)
  · rw [s_Church_sawnTogether_4]
    unfold b_Church_sawnTogether_4
    rw [c_0 h, wf_P hw, if_neg (nI_ge hj (by omega)), rk_in (by omega) (by decide), nI_clamp (by omega), c_22 h (by omega), ti_at w (8 + 3 * j + 2), iI_add, nI_add, fo_s]
  · rw [s_Church_sawnTogether_4]
    unfold b_Church_sawnTogether_4
    rw [c_0 h, wf_P hw, if_pos (nI_le (Nat.le_refl _) (by omega))]
theorem vx_31 (a : Int32) : g_X_isYear a = b01 (vx a 31) := by
  unfold g_X_isYear
  rw [← has_s a (n := 31) (by decide)]
  by_cases h : a < 0
  · rw [if_pos h, if_pos h]
  · rw [if_neg h, if_neg h]
    by_cases h2 : nI 30 < a
    · rw [if_pos h2, if_pos]
      rw [Int32.lt_iff_toInt_lt] at h2
      rw [Int32.le_iff_toInt_le]
      rw [nI_toInt (by decide)] at h2 ⊢
      omega
    · rw [if_neg h2, if_neg]
      rw [Int32.lt_iff_toInt_lt] at h2
      rw [Int32.le_iff_toInt_le]
      rw [nI_toInt (by decide)] at h2 ⊢
      omega
theorem X_canAsk_s (h : CC D w) (hw : WF w) (a : Int32) : g_X_canAsk D a = b01 (decide (0 < nP w) && vx a 31) := by
  unfold g_X_canAsk
  rw [C_isThere_s h hw, vx_31]
  simp only [b01_z]
  cases decide (0 < nP w) <;> cases vx a 31 <;> rfl
theorem X_canAskOf_s (h : CC D w) (hw : WF w) (a y : Int32) : g_X_canAskOfSitter D a y = some (b01 (vx a (nA w) && (decide (0 < nP w) && vx y 31) && st w a.toNatClampNeg)) := by
  have h8 := wf_A8 hw
  unfold g_X_canAskOfSitter
  rw [vx_31, C_isSeated_s h hw, ob_some]
  simp only [b01_z]
  rcases vx_c a (nA w) (by omega) with h1 | ⟨x, hx, rfl⟩
  · rw [h1]
    cases vx y 31 <;> rfl
  · have hp := wf_AP hw (by omega)
    rw [vx_nI (by omega), decide_eq_true hx, decide_eq_true hp]
    cases vx y 31 <;> cases st w (nI x).toNatClampNeg <;> rfl
end CCs
