/-! ===== calls that change the church ===== -/
section WP
variable {D : mx_D} {E : mx_E} {w w' : W_} {F : Nat}
theorem sD_117 (D : mx_D) (k : Nat) (v : Int32) : sD D 117 k v 117 = upd (D 117) k v := sD_row D 117 k v
/-- class cell (19 + o, j) and number k are given the same -/
theorem RL_1 (h : RL D E) {o j k : Nat} (ho : o < 15) (hc : co (nA (D 117)) (nH (D 117)) (nB (D 117)) o j k) (hk : k ≠ 4 ∧ k ≠ 5 ∧ k ≠ 6) {v : Int32} (hW : WF (upd (D 117) k v)) (hU : UQ (upd (D 117) k v)) : RL (sD (sD D (19 + o) j v) 117 k v) E := by
  have e : sD (sD D (19 + o) j v) 117 k v 117 = upd (D 117) k v := by
    rw [sD_117, sD_nr _ _ _ (by omega)]
  have h116 : sD (sD D (19 + o) j v) 117 k v 116 = D 116 := by
    rw [sD_nr _ _ _ (by decide), sD_nr _ _ _ (by omega)]
  refine RL_w (D := D) (E := E) h (by rw [e]; exact hW) (by rw [e]; exact hU) ?_ (fun c q1 q2 q3 => ?_) ?_ ⟨by rw [h116], by rw [h116], by rw [h116]⟩ (fun _ _ _ => rfl)
  · rw [e]
    have := CH_upd h.1 h.2.2.1 hc hk v
    exact CH_of this (fun q q1 q2 => sD_nr _ _ _ (by omega))
  · rw [sD_nr _ _ _ (by omega), sD_nr _ _ _ (by omega)]
  · refine ⟨?_, ?_, ?_, ?_, ?_⟩
    · rw [sD_nr _ _ _ (by decide), sD_nr _ _ _ (by omega)]
    · rw [sD_nr _ _ _ (by decide), sD_nr _ _ _ (by omega)]
    · rw [sD_nr _ _ _ (by decide), sD_nr _ _ _ (by omega)]
    · rw [sD_nr _ _ _ (by decide), sD_nr _ _ _ (by omega)]
    · rw [sD_nr _ _ _ (by decide), sD_nr _ _ _ (by omega)]
theorem UQ_k {k : Nat} {v : Int32} (hU : UQ w) (hk : k ≠ 4 ∧ (k < 40 ∨ 88 ≤ k)) (h8 : nA w ≤ 8) : UQ (upd w k v) :=
  UQ_c hU (by unfold nA; rw [upd_ne _ _ (by omega)]) (fun x hx => ⟨upd_ne _ _ (by omega), upd_ne _ _ (by omega), upd_ne _ _ (by omega)⟩)
theorem WF_law (hW : WF w) {n : Nat} (hn : n ≤ 30) : WF (upd w 2 (nI n)) := by
  have e : ∀ i, i ≠ 2 → upd w 2 (nI n) i = w i := fun i hi => upd_ne _ _ hi
  have eP : nP (upd w 2 (nI n)) = nP w := by unfold nP; rw [e 0 (by omega)]
  have eL : nL (upd w 2 (nI n)) = nL w := by unfold nL; rw [e 1 (by omega)]
  have eA : nA (upd w 2 (nI n)) = nA w := by unfold nA; rw [e 4 (by omega)]
  have eH : nH (upd w 2 (nI n)) = nH w := by unfold nH; rw [e 5 (by omega)]
  have eB : nB (upd w 2 (nI n)) = nB w := by unfold nB; rw [e 6 (by omega)]
  have eN : nN (upd w 2 (nI n)) = nN w := by unfold nN; rw [e 7 (by omega)]
  have eV : nV (upd w 2 (nI n)) = n := by unfold nV; rw [upd_eq, nI_clamp (by omega)]
  refine ⟨?_, ?_, ?_, ?_, ?_, ?_, ?_, ?_, ?_, ?_, ?_, ?_, ?_, ?_, ?_, ?_, ?_⟩
  · rw [eP, e 0 (by omega)]; exact ⟨wf_P hW, wf_P4 hW⟩
  · rw [eL, e 1 (by omega)]; exact ⟨wf_L hW, wf_L5 hW⟩
  · rw [eV, upd_eq]; exact ⟨rfl, hn⟩
  · rw [e 3 (by omega)]; exact wf_3 hW
  · rw [eA, e 4 (by omega)]; exact ⟨wf_A hW, wf_A8 hW⟩
  · rw [eH, e 5 (by omega)]; exact ⟨wf_H hW, wf_H8 hW⟩
  · rw [eB, e 6 (by omega)]; exact ⟨wf_B hW, wf_B5 hW⟩
  · rw [eN, e 7 (by omega)]; exact ⟨wf_N hW, wf_N14 hW⟩
  · rw [eP, eN, eL, eA, eH, eB]; exact hW.2.2.2.2.2.2.2.2.1
  · exact h1_c hW (fun i q1 q2 => e i (by omega))
  · exact h2_c hW (fun i q1 q2 => e i (by omega))
  · intro x hx
    rw [eA] at hx
    rw [ti_c (e (40 + 6 * x) (by omega)), ti_c (e (40 + 6 * x + 1) (by omega)), ti_c (e (40 + 6 * x + 2) (by omega))]
    exact wf_bd hW hx
  · intro x hx
    rw [eA] at hx
    rw [eP, eL]
    exact h4_c hW hx (e _ (by omega)) (e _ (by omega))
  · intro x hx
    rw [eA] at hx
    rw [eH]
    exact h5_c hW hx (e _ (by omega))
  · intro x hx
    rw [eH] at hx
    rw [ti_c (e (88 + x) (by omega))]
    exact wf_hh hW hx
  · intro b hb
    rw [eB] at hb
    rw [ti_c (e (96 + 2 * b) (by omega))]
    exact wf_bh hW hb
  · intro b hb
    rw [eB] at hb
    rw [eA]
    exact h8_c hW hb (e _ (by omega))
theorem op_law (h : RL D E) (a : Int32) : ∃ r D1 D2, g_X_law a D = (r, D1) ∧ g_M_law a D1 = (r, D2) ∧ RL D2 E := by
  have hW := h.1
  have hC := h.2.2.1
  have h8 := wf_A8 hW
  unfold g_X_law
  rw [C_isThere_s hC hW, rng_s a (m := 30) (by decide), b01_if]
  cases hq : decide (0 < nP (D 117))
  · refine ⟨-2, D, D, rfl, ?_, h⟩
    unfold g_M_law
    rw [M_isChurch_s hW, hq, b01_if]
    rfl
  · rcases vx_c a (30 + 1) (by decide) with q | ⟨n, hn, rfl⟩
    · refine ⟨-2, D, D, by rw [q]; rfl, ?_, h⟩
      unfold g_M_law
      rw [M_isChurch_s hW, hq, M_in_i a (n := 30) (by decide), q, b01_if, b01_if]
      rfl
    · refine ⟨D 19 2, sD D 19 2 (nI n), sD (sD D 19 2 (nI n)) 117 2 (nI n), by rw [vx_nI (by omega), decide_eq_true hn]; rfl, ?_, RL_1 h (o := 0) (j := 2) (k := 2) (by decide) (Or.inr (Or.inr (Or.inl ⟨rfl, rfl, rfl⟩))) (by decide) (WF_law hW (by omega)) (UQ_k h.2.1 (by decide) h8)⟩
      have e : sD D 19 2 (nI n) 117 = D 117 := sD_nr _ _ _ (by decide)
      unfold g_M_law
      rw [M_isChurch_s (by rw [e]; exact hW), e, hq, M_in_i (nI n) (n := 30) (by decide), vx_nI (by omega), decide_eq_true hn, b01_if, b01_if, c_2 hC]
      rfl
theorem le0_lg {x y : Int64} : lg_cmp x y ≤ 0 ↔ ¬ y < x := by
  rw [← lg_cmp_gt, Int32.le_iff_toInt_le, Int32.lt_iff_toInt_lt]
  omega
theorem op_cut (h : RL D E) (a b : Int32) : ∃ r D1 D2, g_X_cut a b D = some (r, D1) ∧ g_M_cut a b D1 = some (r, D2) ∧ RL D2 E := by
  have hW := h.1
  have hC := h.2.2.1
  have h8 := wf_A8 hW
  have h4 := wf_P4 hW
  unfold g_X_cut
  rw [C_hasPew_s hC hW, b01_if]
  rcases vx_c a (nP (D 117)) (by omega) with q | ⟨p, hp, rfl⟩
  · refine ⟨-2, D, D, by rw [q]; rfl, ?_, h⟩
    unfold g_M_cut
    rw [M_isPew_s hW, vl_i, q, b01_if]
    rfl
  · rw [vx_nI (by omega), decide_eq_true hp, if_pos rfl]
    by_cases hb : b < 0
    · refine ⟨-2, D, D, by rw [if_pos hb], ?_, h⟩
      unfold g_M_cut
      rw [M_isPew_s hW, vl_i, vx_nI (by omega), decide_eq_true hp, b01_if, if_pos rfl, if_pos hb]
    · obtain ⟨n, hn, rfl⟩ := nI_of hb
      have hu := wf_up hW (j := p) (by omega)
      have es : D 117 (8 + 3 * p + 1) = nI (ti (D 117) (8 + 3 * p + 1)).toNat := by
        rw [iI_nI, Int.toNat_of_nonneg (by omega), ← ti_at]
      have em : D 117 (8 + 3 * p + 2) = nI (ti (D 117) (8 + 3 * p + 2)).toNat := by
        rw [iI_nI, Int.toNat_of_nonneg (by omega), ← ti_at]
      generalize hs : (ti (D 117) (8 + 3 * p + 1)).toNat = s at es
      generalize hm : (ti (D 117) (8 + 3 * p + 2)).toNat = m at em
      have hms : m ≤ s ∧ s ≤ 9 := by omega
      rw [if_neg hb, rk_in (by omega) (by decide), rk_in (by omega) (by decide), rk_in (by omega) (by decide), rk_in (by omega) (by decide), rk_in (by omega) (by decide), nI_clamp (by omega), c_21 hC (by omega), c_22 hC (by omega), es, em, pk_sub hms.1, nI_add, sD_eq]
      by_cases hl : n ≤ s - m
      · have eW : WF (upd (D 117) (8 + 3 * p + 2) (nI (m + n))) := WF_sawn hW (by omega) (by rw [nI_toInt (by omega)]; omega)
        refine ⟨nI (m + n), sD D 22 p (nI (m + n)), sD (sD D 22 p (nI (m + n))) 117 (8 + 3 * p + 2) (nI (m + n)), by rw [if_pos (nI_le hl (by omega))], ?_, RL_1 h (o := 3) (j := p) (k := 8 + 3 * p + 2) (by decide) (by unfold co; exact Or.inr (Or.inr (Or.inr (Or.inr (Or.inr (Or.inr (Or.inr (Or.inr (Or.inr (Or.inr (Or.inl ⟨rfl, by omega, rfl⟩))))))))))) (by omega) eW (UQ_k h.2.1 (by omega) h8)⟩
        have e : sD D 22 p (nI (m + n)) 117 = D 117 := sD_nr _ _ _ (by decide)
        unfold g_M_cut
        rw [M_isPew_s (by rw [e]; exact hW), e, vl_i, vx_nI (by omega), decide_eq_true hp, b01_if, if_pos rfl, if_neg hb, M_ofPew_s _ (by omega) (by decide), ob_some, M_ofPew_s _ (by omega) (by decide), ob_some, e, es, em, nI_l (by omega), nI_l (by omega), nI_l (by omega), lN_add, if_pos (le0_lg.mpr (fun z => by have := (pk_lLT (by omega) (by omega)).mp z; omega)), pk_mul, nI_add, nI_add, rk_in (by omega) (by decide), rk_in (by omega) (by decide), nI_clamp (by omega), em, nI_add, M_ofPew_s _ (by omega) (by decide), ob_some, sD_eq]
      · refine ⟨-2, D, D, by rw [if_neg (nI_ge (by omega) (by omega))], ?_, h⟩
        unfold g_M_cut
        rw [M_isPew_s hW, vl_i, vx_nI (by omega), decide_eq_true hp, b01_if, if_pos rfl, if_neg hb, M_ofPew_s _ (by omega) (by decide), ob_some, M_ofPew_s _ (by omega) (by decide), ob_some, es, em, nI_l (by omega), nI_l (by omega), nI_l (by omega), lN_add, if_neg (fun z => (le0_lg.mp z) ((pk_lLT (by omega) (by omega)).mpr (by omega)))]
theorem op_trench (h : RL D E) (a b n : Int32) : ∃ r D1 D2, g_X_trench a b n D = some (r, D1) ∧ g_M_trench a b n D1 = some (r, D2) ∧ RL D2 E := by
  have hW := h.1
  have hC := h.2.2.1
  have h8 := wf_A8 hW
  have h4 := wf_P4 hW
  have h5 := wf_L5 hW
  unfold g_X_trench
  rw [C_hasPlace_s hC hW, rng_s n (m := 60) (by decide), b01_if]
  cases hq : vx a (nP (D 117)) && vx b (nL (D 117))
  · refine ⟨-2, D, D, rfl, ?_, h⟩
    unfold g_M_trench
    rw [M_isPlace_s hW, vl_i, vl_i, hq, b01_if]
    rfl
  · rcases vx_c n (60 + 1) (by decide) with q | ⟨m, hm, rfl⟩
    · refine ⟨-2, D, D, by rw [q]; rfl, ?_, h⟩
      unfold g_M_trench
      rw [M_isPlace_s hW, vl_i, vl_i, hq, M_in_i n (n := 60) (by decide), q, b01_if, b01_if]
      rfl
    · simp only [Bool.and_eq_true] at hq
      obtain ⟨p, hp, rfl⟩ := vx_of (by omega) hq.1
      obtain ⟨i, hi, rfl⟩ := vx_of (by omega) hq.2
      have hdig : g_Church_dig (nI p) (nI i) (nI m) D = some (sD D 23 (5 * p + i) (nI m)) := by
        unfold g_Church_dig
        rw [C_hasPlace_s hC hW, hq.1, hq.2, b01_if, pk_mul, nI_add, rk_in (by omega) (by decide), nI_clamp (by omega), show p * 5 + i = 5 * p + i by omega]
        rfl
      refine ⟨D 117 (20 + 5 * p + i), sD D 23 (5 * p + i) (nI m), sD (sD D 23 (5 * p + i) (nI m)) 117 (20 + (5 * p + i)) (nI m), by rw [vx_nI (by omega), decide_eq_true hm, if_pos rfl, if_pos rfl, C_trenchAt_s hC hW hp hi, ob_some, hdig, ob_some], ?_, RL_1 h (o := 4) (j := 5 * p + i) (k := 20 + (5 * p + i)) (by decide) (by unfold co; exact Or.inr (Or.inr (Or.inr (Or.inr (Or.inr (Or.inr (Or.inr (Or.inr (Or.inr (Or.inr (Or.inr (Or.inl ⟨rfl, by omega, rfl⟩)))))))))))) (by omega) (WF_tren hW (by omega) (by rw [nI_toInt (by omega)]; omega)) (UQ_k h.2.1 (by omega) h8)⟩
      have e : sD D 23 (5 * p + i) (nI m) 117 = D 117 := sD_nr _ _ _ (by decide)
      unfold g_M_trench
      rw [M_isPlace_s (by rw [e]; exact hW), e, vl_i, vl_i, hq.1, hq.2, M_in_i (nI m) (n := 60) (by decide), vx_nI (by omega), decide_eq_true hm, b01_if, b01_if, M_trenchAt_s, rk_in (by omega) (by decide), rk_in (by omega) (by decide), nI_clamp (by omega), show 20 + 5 * p + i = 20 + (5 * p + i) by omega]
      rfl
theorem op_stands (h : RL D E) (a b : Int32) : ∃ r D1 D2, g_X_stands a b D = some (r, D1) ∧ g_M_stands a b D1 = some (r, D2) ∧ RL D2 E := by
  have hW := h.1
  have hC := h.2.2.1
  have h8 := wf_A8 hW
  have h5 := wf_B5 hW
  unfold g_X_stands
  rw [C_hasBook_s hC hW, C_hasPerson_s hC hW, b01_if, b01_if]
  rcases vx_c b (nB (D 117)) (by omega) with q | ⟨k, hk, rfl⟩
  · refine ⟨-2, D, D, by rw [q]; rfl, ?_, h⟩
    unfold g_M_stands b_M_stands_13
    rw [M_isBook_s hW, q, M_isPerson_s hW, b01_if, b01_if]
    simp
  · rw [vx_nI (by omega), decide_eq_true hk, if_pos rfl]
    have good : (a = -1 ∨ ∃ x, x < nA (D 117) ∧ a = nI x) → ∃ r D1 D2, b_X_stands_30 a (nI k) D = some (r, D1) ∧ b_M_stands_13 a (nI k) D1 = some (r, D2) ∧ RL D2 E := by
      intro hv
      unfold b_X_stands_30
      rw [rk_in (by omega) (by decide), rk_in (by omega) (by decide), nI_clamp (by omega), c_33 hC hk]
      refine ⟨_, _, sD (sD D 33 k a) 117 (96 + 2 * k + 1) a, rfl, ?_, RL_1 h (o := 14) (j := k) (k := 96 + 2 * k + 1) (by decide) (by unfold co; exact Or.inr (Or.inr (Or.inr (Or.inr (Or.inr (Or.inr (Or.inr (Or.inr (Or.inr (Or.inr (Or.inr (Or.inr (Or.inr (Or.inr (Or.inr (Or.inr (Or.inr (Or.inr (Or.inr (Or.inr ⟨rfl, hk, rfl⟩)))))))))))))))))))) (by omega) (WF_book hW hk hv) (UQ_k h.2.1 (by omega) h8)⟩
      have e : sD D 33 k a 117 = D 117 := sD_nr _ _ _ (by decide)
      unfold b_M_stands_13 g_M_setStands
      rw [M_isBook_s (by rw [e]; exact hW), e, vx_nI (by omega), decide_eq_true hk, b01_if, if_pos rfl, M_standsOn_s _ (by omega), ob_some, e]
      simp (disch := omega) only [nI_add, pk_mul, rk_in, nI_clamp, ob_some]
    by_cases ha : a = -1
    · rw [if_pos ha]
      obtain ⟨r, D1, D2, q1, q2, q3⟩ := good (Or.inl ha)
      refine ⟨r, D1, D2, q1, ?_, q3⟩
      unfold g_M_stands
      rw [if_pos ha]
      exact q2
    · rw [if_neg ha]
      rcases vx_c a (nA (D 117)) (by omega) with q | ⟨x, hx, rfl⟩
      · refine ⟨-2, D, D, by rw [q]; rfl, ?_, h⟩
        unfold g_M_stands
        rw [if_neg ha, M_isPerson_s hW, q, b01_if]
        rfl
      · obtain ⟨r, D1, D2, q1, q2, q3⟩ := good (Or.inr ⟨x, hx, rfl⟩)
        refine ⟨r, D1, D2, by rw [vx_nI (by omega), decide_eq_true hx, if_pos rfl]; exact q1, ?_, q3⟩
        have e : D1 117 = D 117 := by
          unfold b_X_stands_30 at q1
          rw [rk_in (by omega) (by decide), rk_in (by omega) (by decide)] at q1
          have := (Prod.mk.inj (Option.some.inj q1)).2
          rw [← this, sD_nr _ _ _ (by decide)]
        unfold g_M_stands
        rw [if_neg ha, M_isPerson_s (by rw [e]; exact hW), e, vx_nI (by omega), decide_eq_true hx, b01_if]
        exact q2
end WP
