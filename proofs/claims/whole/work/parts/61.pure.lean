/-! ===== questions that change nothing ===== -/
section PU
variable {D : mx_D} {F : Nat}
theorem ex_if {α : Type} {c : Prop} {dc : Decidable c} {A B : Option α} (hA : ∃ r, A = some r) (hB : ∃ r, B = some r) : ∃ r, @ite _ c dc A B = some r := by
  by_cases h : c
  · rw [if_pos h]
    exact hA
  · rw [if_neg h]
    exact hB
theorem same (o : Option Int32) (h : ∃ r, o = some r) : ∃ r, o = some r ∧ o = some r := by
  obtain ⟨r, h⟩ := h
  exact ⟨r, h, h⟩
theorem q_pew (hF : 100 ≤ F) (hC : CC D (D 117)) (hW : WF (D 117)) (a b : Int32) : ∃ r, g_X_pew F D a b = some r ∧ g_M_pew F D a b = some r := by
  have h4 := wf_P4 hW
  have h8 := wf_A8 hW
  unfold g_X_pew g_M_pew
  rw [C_hasPew_s hC hW, M_isPew_s hW, vl_i, M_in_i b (n := 3) (by decide)]
  simp only [b01_if]
  rcases vx_c a (nP (D 117)) (by omega) with h | ⟨p, hp, rfl⟩
  · rw [h, if_neg (by decide), if_neg (by decide)]
    exact ⟨_, rfl, rfl⟩
  · rw [vx_nI (by omega), decide_eq_true hp, if_pos rfl, if_pos rfl]
    rcases vx_c b (3 + 1) (by decide) with h | ⟨k, hk, rfl⟩
    · rw [h, if_neg (fun q => by rw [q] at h; revert h; decide), if_neg (fun q => by rw [q] at h; revert h; decide), if_neg (fun q => by rw [q] at h; revert h; decide), if_neg (fun q => by rw [q] at h; revert h; decide)]
      exact ⟨_, rfl, rfl⟩
    · rw [vx_nI (by omega), decide_eq_true hk, if_pos rfl, rk_in (by omega) (by decide), rk_in (by omega) (by decide), rk_in (by omega) (by decide), nI_clamp (by omega)]
      have e : k = 0 ∨ k = 1 ∨ k = 2 ∨ k = 3 := by omega
      rcases e with rfl | rfl | rfl | rfl
      · rw [if_pos rfl, if_neg (by decide), M_ofPew_s D (by omega) (by decide), c_20 hC (by omega)]
        exact ⟨_, rfl, rfl⟩
      · rw [if_neg (by decide), if_pos rfl, if_neg (by decide), M_ofPew_s D (by omega) (by decide), c_21 hC (by omega)]
        exact ⟨_, rfl, rfl⟩
      · rw [if_neg (by decide), if_neg (by decide), if_pos rfl, if_neg (by decide), M_ofPew_s D (by omega) (by decide), c_22 hC (by omega)]
        exact ⟨_, rfl, rfl⟩
      · have hm := sub_256 (sub_pM (D 117) p) h8
        rw [if_neg (by decide), if_neg (by decide), if_neg (by decide), if_pos rfl, if_pos rfl, C_sittersOf_s hF hC hW (by omega), ob_some, M_inPew_s hF hW, ob_some, M_bits_s hF hm, ob_some, bitC _ hm]
        exact ⟨_, rfl, rfl⟩
theorem q_floor (hC : CC D (D 117)) (hW : WF (D 117)) (a b : Int32) : ∃ r, g_X_floor D a b = some r ∧ g_M_floor D a b = some r := by
  have h4 := wf_P4 hW
  have h5 := wf_L5 hW
  unfold g_X_floor g_M_floor
  rw [C_hasPlace_s hC hW, M_isPlace_s hW, vl_i, vl_i]
  simp only [b01_if]
  rcases vx_c a (nP (D 117)) (by omega) with h | ⟨p, hp, rfl⟩
  · rw [h]
    exact ⟨_, rfl, rfl⟩
  · rcases vx_c b (nL (D 117)) (by omega) with h | ⟨i, hi, rfl⟩
    · rw [h, Bool.and_false]
      exact ⟨_, rfl, rfl⟩
    · rw [vx_nI (by omega), vx_nI (by omega), decide_eq_true hp, decide_eq_true hi, C_floorAt_s hC hW hp hi, M_floorOf_s D (by omega) (by omega)]
      exact ⟨_, rfl, rfl⟩
theorem q_who (hF : 100 ≤ F) (hC : CC D (D 117)) (hW : WF (D 117)) (a b : Int32) : ∃ r, g_X_who F D a b = some r ∧ g_M_who F D a b = some r := by
  have h4 := wf_P4 hW
  have h5 := wf_L5 hW
  unfold g_X_who g_M_who
  rw [C_hasPlace_s hC hW, M_isPlace_s hW, vl_i, vl_i]
  simp only [b01_if]
  rcases vx_c a (nP (D 117)) (by omega) with h | ⟨p, hp, rfl⟩
  · rw [h]
    exact ⟨_, rfl, rfl⟩
  · rw [C_sitterAt_s hF hC hW (by omega), M_sitterAt_s hF hW]
    cases vx (nI p) (nP (D 117)) && vx b (nL (D 117))
    · exact ⟨_, rfl, rfl⟩
    · exact ⟨_, rfl, rfl⟩
theorem q_person (hF : 100 ≤ F) (hC : CC D (D 117)) (hW : WF (D 117)) (a b : Int32) : ∃ r, g_X_person F D a b = some r ∧ g_M_person F D a b = some r := by
  have h8 := wf_A8 hW
  have h5 := wf_B5 hW
  unfold g_X_person g_M_person
  rw [C_hasPerson_s hC hW, M_isPerson_s hW, M_in_i b (n := 6) (by decide)]
  simp only [b01_if]
  rcases vx_c a (nA (D 117)) (by omega) with h | ⟨x, hx, rfl⟩
  · rw [h, if_neg (by decide), if_neg (by decide)]
    exact ⟨_, rfl, rfl⟩
  · rw [vx_nI (by omega), decide_eq_true hx, if_pos rfl, if_pos rfl]
    rcases vx_c b (6 + 1) (by decide) with h | ⟨k, hk, rfl⟩
    · rw [h, if_neg (fun q => by rw [q] at h; revert h; decide), if_neg (fun q => by rw [q] at h; revert h; decide), if_neg (fun q => by rw [q] at h; revert h; decide), if_neg (fun q => by rw [q] at h; revert h; decide), if_neg (fun q => by rw [q] at h; revert h; decide), if_neg (fun q => by rw [q] at h; revert h; decide), if_neg (fun q => by rw [q] at h; revert h; decide)]
      exact ⟨_, rfl, rfl⟩
    · rw [vx_nI (by omega), decide_eq_true hk, if_pos rfl, rk_in (by omega) (by decide), rk_in (by omega) (by decide), rk_in (by omega) (by decide), rk_in (by omega) (by decide), rk_in (by omega) (by decide), rk_in (by omega) (by decide), nI_clamp (by omega)]
      have e : k = 0 ∨ k = 1 ∨ k = 2 ∨ k = 3 ∨ k = 4 ∨ k = 5 ∨ k = 6 := by omega
      rcases e with rfl | rfl | rfl | rfl | rfl | rfl | rfl
      · rw [if_pos rfl, if_neg (by decide), M_of_s D (by omega) (by decide), c_25 hC hx]
        exact ⟨_, rfl, rfl⟩
      · rw [if_neg (by decide), if_pos rfl, if_neg (by decide), M_of_s D (by omega) (by decide), c_26 hC hx]
        exact ⟨_, rfl, rfl⟩
      · rw [if_neg (by decide), if_neg (by decide), if_pos rfl, if_neg (by decide), M_of_s D (by omega) (by decide), c_27 hC hx]
        exact ⟨_, rfl, rfl⟩
      · rw [if_neg (by decide), if_neg (by decide), if_neg (by decide), if_pos rfl, if_neg (by decide), M_of_s D (by omega) (by decide), c_28 hC hx]
        exact ⟨_, rfl, rfl⟩
      · rw [if_neg (by decide), if_neg (by decide), if_neg (by decide), if_neg (by decide), if_pos rfl, if_neg (by decide), M_of_s D (by omega) (by decide), c_29 hC hx]
        exact ⟨_, rfl, rfl⟩
      · rw [if_neg (by decide), if_neg (by decide), if_neg (by decide), if_neg (by decide), if_neg (by decide), if_pos rfl, if_neg (by decide), M_of_s D (by omega) (by decide), c_30 hC hx]
        exact ⟨_, rfl, rfl⟩
      · rw [if_neg (by decide), if_neg (by decide), if_neg (by decide), if_neg (by decide), if_neg (by decide), if_neg (by decide), if_pos rfl, if_pos (by decide), C_booksUnder_s hF hC hW, ob_some]
        refine ⟨_, rfl, ?_⟩
        refine lu0 (fun f b => g_M_person_41 F D f (nI x) (nI (mk (fun b => decide (D 117 (96 + 2 * b + 1) = nI x)) b)) (nI b)) (n := nB (D 117)) _ (by omega) (fun f b hb => ?_) (fun f => ?_)
        · rw [s_M_person_41]
          unfold b_M_person_41
          rw [wf_B hW, if_neg (nI_ge hb (by omega)), M_standsOn_s D (by omega), ob_some, mk_s, nb_shl b (by omega), nb_or, nb_or, nI_add]
          by_cases q : D 117 (96 + 2 * b + 1) = nI x
          · simp [q]
          · simp [q]
        · rw [s_M_person_41]
          unfold b_M_person_41
          rw [wf_B hW, if_pos (nI_le (Nat.le_refl _) (by omega))]
theorem q_thing (hC : CC D (D 117)) (hW : WF (D 117)) (a b : Int32) : ∃ r, g_X_thing D a b = some r ∧ g_M_thing D a b = some r := by
  have h8 := wf_H8 hW
  have h5 := wf_B5 hW
  have e : ∃ r, b_X_thing_25 D a b = some r ∧ b_M_thing_24 D a b = some r := by
    unfold b_X_thing_25 b_M_thing_24
    rw [C_hasBook_s hC hW, M_isBook_s hW]
    simp only [b01_if]
    by_cases ha : a = nI 1
    · rw [if_pos ha, if_pos ha]
      rcases vx_c b (nB (D 117)) (by omega) with h | ⟨x, hx, rfl⟩
      · rw [h]
        exact ⟨_, rfl, rfl⟩
      · rw [vx_nI (by omega), decide_eq_true hx, if_pos rfl, if_pos rfl, rk_in (by omega) (by decide), pk_mul, nI_add, rk_in (by omega) (by decide), nI_clamp (by omega), nI_clamp (by omega), c_32 hC hx]
        exact ⟨_, rfl, rfl⟩
    · rw [if_neg ha, if_neg ha]
      exact ⟨_, rfl, rfl⟩
  unfold g_X_thing g_M_thing
  rw [C_hasHat_s hC hW, M_isHat_s hW]
  simp only [b01_if]
  by_cases ha : a = 0
  · rw [if_pos ha, if_pos ha]
    rcases vx_c b (nH (D 117)) (by omega) with h | ⟨x, hx, rfl⟩
    · rw [h]
      exact e
    · rw [vx_nI (by omega), decide_eq_true hx, if_pos rfl, if_pos rfl, rk_in (by omega) (by decide), nI_add, rk_in (by omega) (by decide), nI_clamp (by omega), nI_clamp (by omega), c_31 hC hx]
      exact ⟨_, rfl, rfl⟩
  · rw [if_neg ha, if_neg ha]
    exact e
theorem q_high (hF : 100 ≤ F) (hC : CC D (D 117)) (hW : WF (D 117)) (a b : Int32) : ∃ r, g_X_high F D a b = some r ∧ g_M_high F D a b = some r := by
  have h8 := wf_A8 hW
  unfold g_X_high g_M_high
  rw [C_hasPerson_s hC hW, M_isPerson_s hW, vx_31, M_isYear_s hW]
  simp only [b01_if]
  rcases vx_c a (nA (D 117)) (by omega) with h | ⟨x, hx, rfl⟩
  · rw [h, if_neg (by decide), if_neg (by decide)]
    exact ⟨_, rfl, rfl⟩
  · have hp := wf_AP hW (by omega)
    rw [vx_nI (by omega), decide_eq_true hx, if_pos rfl, if_pos rfl, decide_eq_true hp, Bool.true_and]
    rcases vx_c b 31 (by decide) with h | ⟨y, hy, rfl⟩
    · rw [h, if_neg (by decide), if_neg (by decide)]
      exact ⟨_, rfl, rfl⟩
    · rw [vx_nI (by omega), decide_eq_true hy, if_pos rfl, if_pos rfl, C_highOf_s hF hC hW hx, M_highOf_s hF hW hx]
      exact ⟨_, rfl, rfl⟩
theorem q_bare (hF : 100 ≤ F) (hC : CC D (D 117)) (hW : WF (D 117)) : ∃ r, g_X_bare F D = some r ∧ g_M_bare F D = some r := by
  have h8 := wf_A8 hW
  unfold g_X_bare g_M_bare
  rw [C_isThere_s hC hW, M_isChurch_s hW]
  simp only [b01_if]
  cases decide (0 < nP (D 117))
  · exact ⟨_, rfl, rfl⟩
  · rw [if_pos rfl, if_pos rfl]
    refine ⟨nI (mk (fun x => st (D 117) x && decide (D 117 (40 + 6 * x + 5) = -1)) (nA (D 117))), ?_, ?_⟩
    · refine lu0 (fun f a => g_X_bare_17 F D f (nI (mk (fun x => st (D 117) x && decide (D 117 (40 + 6 * x + 5) = -1)) a)) (nI a)) (n := nA (D 117)) _ (by omega) (fun f a ha => ?_) (fun f => ?_)
      · rw [s_X_bare_17]
        unfold b_X_bare_17
        rw [c_24 hC, wf_A hW, if_neg (nI_ge ha (by omega)), C_seat_s hC hW ha, ob_some, mk_s, nb_shl a (by omega), nb_or, nI_add, rk_in (by omega) (by decide), nI_clamp (by omega), c_30 hC ha]
        simp only [b01_if]
        cases st (D 117) a
        · simp
        · by_cases q : D 117 (40 + 6 * a + 5) = -1
          · simp [q]
          · simp [q]
      · rw [s_X_bare_17]
        unfold b_X_bare_17
        rw [c_24 hC, wf_A hW, if_pos (nI_le (Nat.le_refl _) (by omega))]
    · refine lu0 (fun f a => g_M_bare_14 F D f (nI (mk (fun x => st (D 117) x && decide (D 117 (40 + 6 * x + 5) = -1)) a)) (nI a)) (n := nA (D 117)) _ (by omega) (fun f a ha => ?_) (fun f => ?_)
      · rw [s_M_bare_14]
        unfold b_M_bare_14
        rw [wf_A hW, if_neg (nI_ge ha (by omega)), M_sits_s D (by omega), ob_some, mk_s, nb_shl a (by omega), nb_or, nb_or, nI_add, M_of_s D (by omega) (by decide), ob_some]
        simp only [b01_if]
        cases st (D 117) a
        · simp
        · by_cases q : D 117 (40 + 6 * a + 5) = -1
          · simp [q]
          · simp [q]
      · rw [s_M_bare_14]
        unfold b_M_bare_14
        rw [wf_A hW, if_pos (nI_le (Nat.le_refl _) (by omega))]
theorem q_fault {E : mx_E} (h : RL D E) (a : Int32) : g_X_fault D a = g_M_fault D a := by
  unfold g_X_fault g_M_fault
  rw [h.2.2.2.2.1.1, h.2.2.2.2.1.2]
theorem q_count (hF : 100 ≤ F) {E : mx_E} (h : RL D E) (a : Int32) : ∃ r, g_X_count F D a = some r ∧ g_M_count F D a = some r := by
  obtain ⟨hW, hU, hC, ⟨t, ht1, ht2, ht3, ht4⟩, -, -, hS⟩ := h
  have h4 := wf_P4 hW
  have eS : ∃ r, g_X_slotsWithRow F D = some r ∧ g_M_count_163 F D F (nI 0) (nI 0) = some r := by
    refine ⟨nI (fo (fun s k => k + (if D 137 s = -1 then 0 else 1)) 0 4), ?_, ?_⟩
    · unfold g_X_slotsWithRow
      refine lu0 (fun f s => g_X_slotsWithRow_4 F D f (nI (fo (fun s k => k + (if D 137 s = -1 then 0 else 1)) 0 s)) (nI s)) (n := 4) _ (by omega) (fun f s hs => ?_) (fun f => ?_)
      · rw [s_X_slotsWithRow_4]
        unfold b_X_slotsWithRow_4
        rw [if_neg (nI_ge hs (by decide)), nI_add, nI_add, nI_add, fo_s]
        have e : D (108 + 2 * s) 1 = b01 (decide (¬ D 137 s = -1)) := by
          rcases hS s hs with ⟨q1, q2⟩ | ⟨m, wd, q1, q2, q3, q4, q5⟩
          · rw [q1, q2]
            rfl
          · rw [q3, q4, decide_eq_true (nI_m1 (by omega))]
            rfl
        have e4 : s = 0 ∨ s = 1 ∨ s = 2 ∨ s = 3 := by omega
        rcases e4 with rfl | rfl | rfl | rfl
        · rw [if_pos rfl, show D 108 1 = _ from e, b01_if]
          by_cases q : D 137 0 = -1
          · simp [q]
          · simp [q]
        · rw [if_neg (by decide), if_pos rfl, show D 110 1 = _ from e, b01_if]
          by_cases q : D 137 1 = -1
          · simp [q]
          · simp [q]
        · rw [if_neg (by decide), if_neg (by decide), if_pos rfl, show D 112 1 = _ from e, b01_if]
          by_cases q : D 137 2 = -1
          · simp [q]
          · simp [q]
        · rw [if_neg (by decide), if_neg (by decide), if_neg (by decide), if_pos rfl, show D 114 1 = _ from e, b01_if]
          by_cases q : D 137 3 = -1
          · simp [q]
          · simp [q]
      · rw [s_X_slotsWithRow_4]
        unfold b_X_slotsWithRow_4
        rw [if_pos (nI_le (Nat.le_refl _) (by decide))]
    · refine lu0 (fun f s => g_M_count_163 F D f (nI (fo (fun s k => k + (if D 137 s = -1 then 0 else 1)) 0 s)) (nI s)) (n := 4) _ (by omega) (fun f s hs => ?_) (fun f => ?_)
      · rw [s_M_count_163]
        unfold b_M_count_163
        rw [if_neg (nI_ge hs (by decide)), nI_add, nI_add, nI_add, fo_s, rk_in hs (by decide), nI_clamp (by omega)]
        by_cases q : D 137 s = -1
        · simp [q]
        · simp [q]
      · rw [s_M_count_163]
        unfold b_M_count_163
        rw [if_pos (nI_le (Nat.le_refl _) (by decide))]
  have eM : g_M_count_134 F D F (nI 0) (nI 0) = some (iI (fo (fun j s => s + ti (D 117) (8 + 3 * j + 2)) 0 (nP (D 117)))) := by
    refine lu0 (fun f j => g_M_count_134 F D f (iI (fo (fun j s => s + ti (D 117) (8 + 3 * j + 2)) 0 j)) (nI j)) (n := nP (D 117)) _ (by omega) (fun f j hj => ?_) (fun f => ?_)
    · rw [s_M_count_134]
      unfold b_M_count_134
      rw [wf_P hW, if_neg (nI_ge hj (by omega)), M_ofPew_s D (by omega) (by decide), ob_some, ti_at (D 117) (8 + 3 * j + 2), iI_add, nI_add, fo_s]
    · rw [s_M_count_134]
      unfold b_M_count_134
      rw [wf_P hW, if_pos (nI_le (Nat.le_refl _) (by omega))]
  obtain ⟨r, eS1, eS2⟩ := eS
  unfold g_X_count g_M_count
  rw [c_0 hC, c_1 hC, c_2 hC, c_24 hC, c_10 hC, c_12 hC, c_4 hC, ht2, ht3, C_sitters_s hF hC hW, M_sitters_s hF hW, C_sawnTogether_s hF hC hW, eM, eS1, eS2, c_3 hC, ba_b hW]
  simp only [ob_some, b01_if]
  have e3 : (if ba (D 117) = true then some (nI 1) else some (nI 0)) = some (b01 (ba (D 117))) := by cases ba (D 117) <;> rfl
  rw [e3]
  refine same _ ?_
  repeat (first | exact ⟨_, rfl⟩ | refine ex_if ⟨_, rfl⟩ ?_)
end PU
