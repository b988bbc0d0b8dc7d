/-! ===== what was seen: the questions ===== -/
section SO
variable {F : Nat} {D : mx_D} {E : mx_E} {w : W_}
def odd_ (w : W_) (y : Nat) (N : Nat → Int64) (i : Nat) : Bool := decide (sat w (nI (pe N i)) (nI (pa N i)) = -1) || !(decide ((iI (hi w y (sat w (nI (pe N i)) (nI (pa N i))).toNatClampNeg)).toInt64 = N (3 * i + 2)))
theorem sat_c {p i : Int32} (hW : WF w) : sat w p i = -1 ∨ ∃ x, x < nA w ∧ sat w p i = nI x := by
  unfold sat
  rcases ff_sp (fun x => decide (w (40 + 6 * x + 3) = p) && decide (w (40 + 6 * x + 4) = i)) (nA w) 0 with ⟨h, -⟩ | ⟨j, -, h2, -, -, h5⟩
  · exact Or.inl h
  · exact Or.inr ⟨j, by omega, h5⟩
theorem nI_c4 {a b : Nat} (ha : a < 4) (hb : b < 4) : (nI a = nI b) ↔ a = b := nI_eq (by omega) (by omega)
theorem X_look_108 (hC : CC D w) (hW : WF w) {y : Nat} (hy : (decide (0 < nP w) && vx (nI y) 31) = true) : g_X_lookAt F E (nI 0) (nI y) D = if D 108 1 = 0 then some (-6, D) else Option.bind (g_Sightings_take_108 F E (nI y) D) (fun r => if r.1 = 0 then some (-2, r.2) else some (nI 0, r.2)) := by
  unfold g_X_lookAt
  rw [isSlot_x, b01_if, if_pos (by decide), X_canAsk_s hC hW, b01_if, if_pos hy]
  simp only [nI_c4 (a := 0) (b := 0) (by decide) (by decide), nI_c4 (a := 0) (b := 1) (by decide) (by decide), nI_c4 (a := 0) (b := 2) (by decide) (by decide), nI_c4 (a := 0) (b := 3) (by decide) (by decide), Nat.reduceEqDiff, if_true, if_false, Nat.one_ne_zero, reduceIte]
theorem X_odd_108 (hF : 1000 ≤ F) (hC : CC D w) (hW : WF w) {N : Nat → Int64} (hE : ∀ i, i < 60 → E 109 i = N i) {n : Nat} (hn : n ≤ 20) (h0 : D 57 0 = nI n) (hok : ∀ i, i < n → okp w N i = true) (y : Nat) : g_Sightings_firstOdd_108 F D E (nI y) = some (ff (odd_ w y N) n 0) := by
  have h4 := wf_P4 hW
  unfold g_Sightings_firstOdd_108
  refine lff0 _ (fun f i => g_Sightings_firstOdd_108_3 F D E f (nI y) (nI i)) (n := n) (by omega) (fun f i hj => ?_) (fun f => ?_)
  · rw [s_Sightings_firstOdd_108_3]
    unfold b_Sightings_firstOdd_108_3
    obtain ⟨p1, p2, p3, p4⟩ := okp_c hW (hok i hj)
    rw [h0, if_neg (nI_ge hj (by omega)), S_pew_108 hE (by omega), ob_some, S_pla_108 hE (by omega), ob_some, p1, p3, C_sitterAt_s (by omega) hC hW (by omega), ob_some]
    unfold odd_
    rcases sat_c (p := nI (pe N i)) (i := nI (pa N i)) hW with q | ⟨x, x1, q⟩
    · rw [q, if_pos rfl, if_pos (show (decide ((-1 : Int32) = -1) || _) = true by rw [decide_eq_true rfl, Bool.true_or])]
    · have h8 := wf_A8 hW
      have nm := nI_m1 (n := x) (by omega)
      rw [q, if_neg nm, C_highOf_s (by omega) hC hW x1, ob_some, pk_mul, nI_add, rk_in (by omega) (by decide), nI_clamp (by omega), nI_clamp (by omega), hE _ (by omega), nI_add, decide_eq_false nm, Bool.false_or]
      by_cases c : (iI (hi w y x)).toInt64 = N (3 * i + 2)
      · rw [if_pos ((lg_cmp_eq _ _).mpr c), decide_eq_true c, if_neg (by decide)]
      · rw [if_neg (fun z => c ((lg_cmp_eq _ _).mp z)), decide_eq_false c, if_pos (by decide)]
  · rw [s_Sightings_firstOdd_108_3]
    unfold b_Sightings_firstOdd_108_3
    rw [h0, if_pos (nI_le (Nat.le_refl _) (by omega))]
theorem X_look_110 (hC : CC D w) (hW : WF w) {y : Nat} (hy : (decide (0 < nP w) && vx (nI y) 31) = true) : g_X_lookAt F E (nI 1) (nI y) D = if D 110 1 = 0 then some (-6, D) else Option.bind (g_Sightings_take_110 F E (nI y) D) (fun r => if r.1 = 0 then some (-2, r.2) else some (nI 0, r.2)) := by
  unfold g_X_lookAt
  rw [isSlot_x, b01_if, if_pos (by decide), X_canAsk_s hC hW, b01_if, if_pos hy]
  simp only [nI_c4 (a := 1) (b := 0) (by decide) (by decide), nI_c4 (a := 1) (b := 1) (by decide) (by decide), nI_c4 (a := 1) (b := 2) (by decide) (by decide), nI_c4 (a := 1) (b := 3) (by decide) (by decide), Nat.reduceEqDiff, if_true, if_false, Nat.one_ne_zero, reduceIte]
theorem X_odd_110 (hF : 1000 ≤ F) (hC : CC D w) (hW : WF w) {N : Nat → Int64} (hE : ∀ i, i < 60 → E 111 i = N i) {n : Nat} (hn : n ≤ 20) (h0 : D 57 0 = nI n) (hok : ∀ i, i < n → okp w N i = true) (y : Nat) : g_Sightings_firstOdd_110 F D E (nI y) = some (ff (odd_ w y N) n 0) := by
  have h4 := wf_P4 hW
  unfold g_Sightings_firstOdd_110
  refine lff0 _ (fun f i => g_Sightings_firstOdd_110_3 F D E f (nI y) (nI i)) (n := n) (by omega) (fun f i hj => ?_) (fun f => ?_)
  · rw [s_Sightings_firstOdd_110_3]
    unfold b_Sightings_firstOdd_110_3
    obtain ⟨p1, p2, p3, p4⟩ := okp_c hW (hok i hj)
    rw [h0, if_neg (nI_ge hj (by omega)), S_pew_110 hE (by omega), ob_some, S_pla_110 hE (by omega), ob_some, p1, p3, C_sitterAt_s (by omega) hC hW (by omega), ob_some]
    unfold odd_
    rcases sat_c (p := nI (pe N i)) (i := nI (pa N i)) hW with q | ⟨x, x1, q⟩
    · rw [q, if_pos rfl, if_pos (show (decide ((-1 : Int32) = -1) || _) = true by rw [decide_eq_true rfl, Bool.true_or])]
    · have h8 := wf_A8 hW
      have nm := nI_m1 (n := x) (by omega)
      rw [q, if_neg nm, C_highOf_s (by omega) hC hW x1, ob_some, pk_mul, nI_add, rk_in (by omega) (by decide), nI_clamp (by omega), nI_clamp (by omega), hE _ (by omega), nI_add, decide_eq_false nm, Bool.false_or]
      by_cases c : (iI (hi w y x)).toInt64 = N (3 * i + 2)
      · rw [if_pos ((lg_cmp_eq _ _).mpr c), decide_eq_true c, if_neg (by decide)]
      · rw [if_neg (fun z => c ((lg_cmp_eq _ _).mp z)), decide_eq_false c, if_pos (by decide)]
  · rw [s_Sightings_firstOdd_110_3]
    unfold b_Sightings_firstOdd_110_3
    rw [h0, if_pos (nI_le (Nat.le_refl _) (by omega))]
theorem X_look_112 (hC : CC D w) (hW : WF w) {y : Nat} (hy : (decide (0 < nP w) && vx (nI y) 31) = true) : g_X_lookAt F E (nI 2) (nI y) D = if D 112 1 = 0 then some (-6, D) else Option.bind (g_Sightings_take_112 F E (nI y) D) (fun r => if r.1 = 0 then some (-2, r.2) else some (nI 0, r.2)) := by
  unfold g_X_lookAt
  rw [isSlot_x, b01_if, if_pos (by decide), X_canAsk_s hC hW, b01_if, if_pos hy]
  simp only [nI_c4 (a := 2) (b := 0) (by decide) (by decide), nI_c4 (a := 2) (b := 1) (by decide) (by decide), nI_c4 (a := 2) (b := 2) (by decide) (by decide), nI_c4 (a := 2) (b := 3) (by decide) (by decide), Nat.reduceEqDiff, if_true, if_false, Nat.one_ne_zero, reduceIte]
theorem X_odd_112 (hF : 1000 ≤ F) (hC : CC D w) (hW : WF w) {N : Nat → Int64} (hE : ∀ i, i < 60 → E 113 i = N i) {n : Nat} (hn : n ≤ 20) (h0 : D 57 0 = nI n) (hok : ∀ i, i < n → okp w N i = true) (y : Nat) : g_Sightings_firstOdd_112 F D E (nI y) = some (ff (odd_ w y N) n 0) := by
  have h4 := wf_P4 hW
  unfold g_Sightings_firstOdd_112
  refine lff0 _ (fun f i => g_Sightings_firstOdd_112_3 F D E f (nI y) (nI i)) (n := n) (by omega) (fun f i hj => ?_) (fun f => ?_)
  · rw [s_Sightings_firstOdd_112_3]
    unfold b_Sightings_firstOdd_112_3
    obtain ⟨p1, p2, p3, p4⟩ := okp_c hW (hok i hj)
    rw [h0, if_neg (nI_ge hj (by omega)), S_pew_112 hE (by omega), ob_some, S_pla_112 hE (by omega), ob_some, p1, p3, C_sitterAt_s (by omega) hC hW (by omega), ob_some]
    unfold odd_
    rcases sat_c (p := nI (pe N i)) (i := nI (pa N i)) hW with q | ⟨x, x1, q⟩
    · rw [q, if_pos rfl, if_pos (show (decide ((-1 : Int32) = -1) || _) = true by rw [decide_eq_true rfl, Bool.true_or])]
    · have h8 := wf_A8 hW
      have nm := nI_m1 (n := x) (by omega)
      rw [q, if_neg nm, C_highOf_s (by omega) hC hW x1, ob_some, pk_mul, nI_add, rk_in (by omega) (by decide), nI_clamp (by omega), nI_clamp (by omega), hE _ (by omega), nI_add, decide_eq_false nm, Bool.false_or]
      by_cases c : (iI (hi w y x)).toInt64 = N (3 * i + 2)
      · rw [if_pos ((lg_cmp_eq _ _).mpr c), decide_eq_true c, if_neg (by decide)]
      · rw [if_neg (fun z => c ((lg_cmp_eq _ _).mp z)), decide_eq_false c, if_pos (by decide)]
  · rw [s_Sightings_firstOdd_112_3]
    unfold b_Sightings_firstOdd_112_3
    rw [h0, if_pos (nI_le (Nat.le_refl _) (by omega))]
theorem X_look_114 (hC : CC D w) (hW : WF w) {y : Nat} (hy : (decide (0 < nP w) && vx (nI y) 31) = true) : g_X_lookAt F E (nI 3) (nI y) D = if D 114 1 = 0 then some (-6, D) else Option.bind (g_Sightings_take_114 F E (nI y) D) (fun r => if r.1 = 0 then some (-2, r.2) else some (nI 0, r.2)) := by
  unfold g_X_lookAt
  rw [isSlot_x, b01_if, if_pos (by decide), X_canAsk_s hC hW, b01_if, if_pos hy]
  simp only [nI_c4 (a := 3) (b := 0) (by decide) (by decide), nI_c4 (a := 3) (b := 1) (by decide) (by decide), nI_c4 (a := 3) (b := 2) (by decide) (by decide), nI_c4 (a := 3) (b := 3) (by decide) (by decide), Nat.reduceEqDiff, if_true, if_false, Nat.one_ne_zero, reduceIte]
theorem X_odd_114 (hF : 1000 ≤ F) (hC : CC D w) (hW : WF w) {N : Nat → Int64} (hE : ∀ i, i < 60 → E 115 i = N i) {n : Nat} (hn : n ≤ 20) (h0 : D 57 0 = nI n) (hok : ∀ i, i < n → okp w N i = true) (y : Nat) : g_Sightings_firstOdd_114 F D E (nI y) = some (ff (odd_ w y N) n 0) := by
  have h4 := wf_P4 hW
  unfold g_Sightings_firstOdd_114
  refine lff0 _ (fun f i => g_Sightings_firstOdd_114_3 F D E f (nI y) (nI i)) (n := n) (by omega) (fun f i hj => ?_) (fun f => ?_)
  · rw [s_Sightings_firstOdd_114_3]
    unfold b_Sightings_firstOdd_114_3
    obtain ⟨p1, p2, p3, p4⟩ := okp_c hW (hok i hj)
    rw [h0, if_neg (nI_ge hj (by omega)), S_pew_114 hE (by omega), ob_some, S_pla_114 hE (by omega), ob_some, p1, p3, C_sitterAt_s (by omega) hC hW (by omega), ob_some]
    unfold odd_
    rcases sat_c (p := nI (pe N i)) (i := nI (pa N i)) hW with q | ⟨x, x1, q⟩
    · rw [q, if_pos rfl, if_pos (show (decide ((-1 : Int32) = -1) || _) = true by rw [decide_eq_true rfl, Bool.true_or])]
    · have h8 := wf_A8 hW
      have nm := nI_m1 (n := x) (by omega)
      rw [q, if_neg nm, C_highOf_s (by omega) hC hW x1, ob_some, pk_mul, nI_add, rk_in (by omega) (by decide), nI_clamp (by omega), nI_clamp (by omega), hE _ (by omega), nI_add, decide_eq_false nm, Bool.false_or]
      by_cases c : (iI (hi w y x)).toInt64 = N (3 * i + 2)
      · rw [if_pos ((lg_cmp_eq _ _).mpr c), decide_eq_true c, if_neg (by decide)]
      · rw [if_neg (fun z => c ((lg_cmp_eq _ _).mp z)), decide_eq_false c, if_pos (by decide)]
  · rw [s_Sightings_firstOdd_114_3]
    unfold b_Sightings_firstOdd_114_3
    rw [h0, if_pos (nI_le (Nat.le_refl _) (by omega))]
theorem M_odd_s (hF : 1000 ≤ F) (hW : WF (D 117)) {s n : Nat} (hs : s < 4) (hn : n ≤ 20) (hm : D 137 s = nI (3 * n)) (hok : ∀ i, i < n → okp (D 117) (rw_ E s) i = true) (y : Nat) : g_M_odd_16 F D E F (nI s) (nI y) (nI 0) = some (ff (odd_ (D 117) y (rw_ E s)) n 0) := by
  refine lff0 _ (fun f i => g_M_odd_16 F D E f (nI s) (nI y) (nI i)) (n := n) (by omega) (fun f i hj => ?_) (fun f => ?_)
  · rw [s_M_odd_16]
    unfold b_M_odd_16
    obtain ⟨p1, p2, p3, p4⟩ := okp_c hW (hok i hj)
    rw [rk_in (by omega) (by decide), nI_clamp (by omega), hm, pk_mul, if_neg (nI_ge (by omega) (by omega)), nmb hs (by omega), ob_some, nI_add, nmb hs (by omega), ob_some, p1, p3, M_sitterAt_s (by omega) hW, ob_some]
    unfold odd_
    rcases sat_c (p := nI (pe (rw_ E s) i)) (i := nI (pa (rw_ E s) i)) hW with q | ⟨x, x1, q⟩
    · rw [q, if_pos rfl, if_pos (show (decide ((-1 : Int32) = -1) || _) = true by rw [decide_eq_true rfl, Bool.true_or])]
    · have h8 := wf_A8 hW
      have nm := nI_m1 (n := x) (by omega)
      rw [q, if_neg nm, M_highOf_s (by omega) hW x1, ob_some, nI_add, nmb hs (by omega), ob_some, nI_clamp (by omega), nI_add, decide_eq_false nm, Bool.false_or]
      by_cases c : (iI (hi (D 117) y x)).toInt64 = rw_ E s (3 * i + 2)
      · rw [if_pos ((lg_cmp_eq _ _).mpr c), decide_eq_true c, if_neg (by decide)]
      · rw [if_neg (fun z => c ((lg_cmp_eq _ _).mp z)), decide_eq_false c, if_pos (by decide)]
  · rw [s_M_odd_16]
    unfold b_M_odd_16
    rw [rk_in (by omega) (by decide), nI_clamp (by omega), hm, pk_mul, if_pos (nI_le (Nat.le_refl _) (by omega))]
def LKD (D : mx_D) (E : mx_E) (D' : mx_D) (a b : Int32) : Prop := ∃ s y n, s < 4 ∧ y ≤ 30 ∧ n ≤ 20 ∧ a = nI s ∧ b = nI y ∧ D 137 s = nI (3 * n) ∧ (∀ i, i < n → okp (D 117) (rw_ E s) i = true) ∧ D' 57 0 = nI n ∧ D' 57 1 = nI (nA (D 117)) ∧ (∀ i, i < n → i < 8 → D' 58 i = nI (mk (ftn (D 117) y (rw_ E s) i) (nA (D 117)))) ∧ ∀ i, i < 60 → E (109 + 2 * s) i = rw_ E s i
theorem look_s (hF : 20000 ≤ F) (h : RL D E) (a b : Int32) : ∃ v D', g_X_lookAt F E a b D = some (v, D') ∧ (∀ c, c ≠ 57 → c ≠ 58 → D' c = D c) ∧ (∀ D2 : mx_D, D2 117 = D 117 → D2 137 = D 137 → g_M_asksSeen F D2 E a b = some v) ∧ ((¬ v = 0 ∧ ¬ 0 ≤ v) ∨ (v = nI 0 ∧ LKD D E D' a b)) := by
  have hW := h.1
  have hC := h.2.2.1
  have bad2 : (¬ (-2 : Int32) = 0 ∧ ¬ (0 : Int32) ≤ -2) := by decide
  have bad6 : (¬ (-6 : Int32) = 0 ∧ ¬ (0 : Int32) ≤ -6) := by decide
  have top : ∀ D2 : mx_D, D2 117 = D 117 → g_M_isSlot a = b01 (vx a 4) ∧ g_M_isYear D2 b = b01 (decide (0 < nP (D 117)) && vx b 31) := fun D2 e => ⟨M_isSlot_s a, by
    rw [M_isYear_s (by rw [e]; exact hW), e]⟩
  rcases vx_c a 4 (by decide) with q | ⟨s, hs, rfl⟩
  · refine ⟨-2, D, ?_, fun _ _ _ => rfl, fun D2 e _ => ?_, Or.inl bad2⟩
    · unfold g_X_lookAt
      rw [isSlot_x, b01_if, q, if_neg (by decide)]
    · unfold g_M_asksSeen
      rw [(top D2 e).1, b01_if, q, if_neg (by decide)]
  · have qs : vx (nI s) 4 = true := by rw [vx_nI (by omega)]; exact decide_eq_true hs
    rcases yr_c (D 117) b with q | ⟨y, hy, rfl, hP, q⟩
    · refine ⟨-2, D, ?_, fun _ _ _ => rfl, fun D2 e _ => ?_, Or.inl bad2⟩
      · unfold g_X_lookAt
        rw [isSlot_x, b01_if, qs, if_pos rfl, X_canAsk_s hC hW, b01_if, q, if_neg (by decide)]
      · unfold g_M_asksSeen
        rw [(top D2 e).1, b01_if, qs, if_pos rfl, (top D2 e).2, b01_if, q, if_neg (by decide)]
    · have asks : ∀ D2 : mx_D, D2 117 = D 117 → D2 137 = D 137 → g_M_asksSeen F D2 E (nI s) (nI y) = if D 137 s = -1 then some (-6) else if D 137 s - D 137 s / nI 3 * nI 3 = 0 then g_M_asksSeen_47 F D2 E F (nI s) (nI 0) else some (-2) := fun D2 e e2 => by
        unfold g_M_asksSeen
        rw [(top D2 e).1, b01_if, qs, if_pos rfl, (top D2 e).2, b01_if, q, if_pos rfl, rk_in hs (by decide), rk_in hs (by decide), nI_clamp (by omega), e2]
      have hS := h.2.2.2.2.2.2 s hs
      rcases hS with ⟨n1, n2⟩ | ⟨m, wd, hm, -, m1, m2, m3, -, -, m4⟩
      · refine ⟨-6, D, ?_, fun _ _ _ => rfl, fun D2 e e2 => ?_, Or.inl bad6⟩
        · rcases (show s = 0 ∨ s = 1 ∨ s = 2 ∨ s = 3 by omega) with rfl | rfl | rfl | rfl
          · rw [X_look_108 hC hW q, if_pos (show D 108 1 = 0 from n2)]
          · rw [X_look_110 hC hW q, if_pos (show D 110 1 = 0 from n2)]
          · rw [X_look_112 hC hW q, if_pos (show D 112 1 = 0 from n2)]
          · rw [X_look_114 hC hW q, if_pos (show D 114 1 = 0 from n2)]
        · rw [asks D2 e e2, if_pos n1]
      · have hE : ∀ i, i < 60 → E (109 + 2 * s) i = rw_ E s i := m4
        have n1 : ¬ nI 1 = (0 : Int32) := by decide
        obtain ⟨v, A, a1, a2, a3⟩ : ∃ v A, g_X_lookAt F E (nI s) (nI y) D = Option.bind (some (v, A)) (fun r : Int32 × mx_D => if r.1 = 0 then some (-2, r.2) else some (nI 0, r.2)) ∧ (∀ c, c ≠ 57 → c ≠ 58 → A c = D c) ∧ ((¬ gud (D 117) (rw_ E s) m ∧ v = nI 0) ∨ (gud (D 117) (rw_ E s) m ∧ v = nI 1 ∧ A 57 0 = nI (m / 3) ∧ A 57 1 = nI (nA (D 117)) ∧ ∀ i, i < m / 3 → i < 8 → A 58 i = nI (mk (ftn (D 117) y (rw_ E s) i) (nA (D 117))))) := by
          rcases (show s = 0 ∨ s = 1 ∨ s = 2 ∨ s = 3 by omega) with rfl | rfl | rfl | rfl
          · obtain ⟨v, A, a1, a2, a3⟩ := S_take_108 (F := F) (by omega) hC hW hE hm m3 y
            exact ⟨v, A, by rw [X_look_108 hC hW q, m2, if_neg n1, a1], a2, a3⟩
          · obtain ⟨v, A, a1, a2, a3⟩ := S_take_110 (F := F) (by omega) hC hW hE hm m3 y
            exact ⟨v, A, by rw [X_look_110 hC hW q, m2, if_neg n1, a1], a2, a3⟩
          · obtain ⟨v, A, a1, a2, a3⟩ := S_take_112 (F := F) (by omega) hC hW hE hm m3 y
            exact ⟨v, A, by rw [X_look_112 hC hW q, m2, if_neg n1, a1], a2, a3⟩
          · obtain ⟨v, A, a1, a2, a3⟩ := S_take_114 (F := F) (by omega) hC hW hE hm m3 y
            exact ⟨v, A, by rw [X_look_114 hC hW q, m2, if_neg n1, a1], a2, a3⟩
        have hz := nI_z (m - m / 3 * 3) (by omega)
        have asks2 : ∀ D2 : mx_D, D2 117 = D 117 → D2 137 = D 137 → g_M_asksSeen F D2 E (nI s) (nI y) = if m % 3 = 0 then g_M_asksSeen_47 F D2 E F (nI s) (nI 0) else some (-2) := fun D2 e e2 => by
          rw [asks D2 e e2, m1, if_neg (nI_m1 (by omega)), pk_div (by omega) (by decide) (by decide), pk_mul, nI_subN (by omega)]
          by_cases c : m % 3 = 0
          · rw [if_pos c, if_pos (hz.mpr (by omega))]
          · rw [if_neg c, if_neg (fun z => by have := hz.mp z; omega)]
        have asks3 : ∀ D2 : mx_D, D2 117 = D 117 → D2 137 = D 137 → (gud (D 117) (rw_ E s) m → g_M_asksSeen F D2 E (nI s) (nI y) = some (nI 0)) ∧ (¬ gud (D 117) (rw_ E s) m → g_M_asksSeen F D2 E (nI s) (nI y) = some (-2)) := fun D2 e e2 => by
          rw [asks2 D2 e e2]
          by_cases c : m % 3 = 0
          · rw [if_pos c]
            rcases M_asks_s (D := D2) (E := E) (F := F) (by omega) (by rw [e]; exact hW) hs (n := m / 3) (by omega) (by rw [e2, m1]; congr 1; omega) with ⟨⟨i, i1, i2⟩, z⟩ | ⟨z1, z⟩
            · rw [e] at i2
              exact ⟨fun g => absurd i2 (g.2 i i1), fun _ => z⟩
            · rw [e] at z1
              exact ⟨fun _ => z, fun g => absurd ⟨c, z1⟩ g⟩
          · rw [if_neg c]
            exact ⟨fun g => absurd g.1 c, fun _ => rfl⟩
        rw [a1, ob_some]
        rcases a3 with ⟨g1, rfl⟩ | ⟨g1, rfl, g2, g3, g4⟩
        · rw [if_pos (show nI 0 = 0 from rfl)]
          exact ⟨_, A, rfl, a2, fun D2 e e2 => (asks3 D2 e e2).2 g1, Or.inl bad2⟩
        · rw [if_neg n1]
          refine ⟨_, A, rfl, a2, fun D2 e e2 => (asks3 D2 e e2).1 g1, Or.inr ⟨rfl, s, y, m / 3, hs, hy, by omega, rfl, rfl, ?_, fun i hi => ?_, g2, g3, g4, hE⟩⟩
          · rw [m1]
            have := g1.1
            congr 1
            omega
          · have := g1.2 i hi
            unfold bdw at this
            cases z : okp (D 117) (rw_ E s) i
            · exact absurd (Or.inl z) this
            · rfl
theorem FM_ways {D D' : mx_D} (h : ∀ c, c ≠ 134 → c ≠ 135 → D' c = D c) : FM D D' := by
  have h116 := h 116 (by decide) (by decide)
  exact ⟨fun c hc => h c (by omega) (by omega), ⟨h _ (by decide) (by decide), h _ (by decide) (by decide), h _ (by decide) (by decide), h _ (by decide) (by decide), h _ (by decide) (by decide), h _ (by decide) (by decide)⟩, by rw [h116], by rw [h116], by rw [h116]⟩
theorem fmy_m1 (fit : Nat → Nat → Bool) {n k : Nat} (hk : k < 1000) (a4 : Int32) : twy (fmy fit (-1) a4) n k = twy fit n k := twy_c (fun j p hj _ => by
  unfold fmy
  rw [if_neg (nI_m1 (by omega)), Bool.and_true])
theorem op_seen (hF : 20000 ≤ F) (h : RL D E) (a b : Int32) : ∃ r D1 D2, g_X_seen F E a b D = some (r, D1) ∧ g_M_seen F E a b D1 = some (r, D2) ∧ RL D2 E := by
  have hW := h.1
  have h8 := wf_A8 hW
  obtain ⟨v, A, a1, a2, a3, a4⟩ := look_s hF h a b
  have hFX : FX D A := fun c hc => a2 c (by omega) (by omega)
  unfold g_X_seen
  rw [a1, ob_some]
  rcases a4 with ⟨g1, g2⟩ | ⟨rfl, s, y, n, hs, hy, hn, rfl, rfl, m1, ok, c0, c1, c2, hE⟩
  · rw [if_neg g1]
    refine ⟨v, A, A, rfl, ?_, RL_q h (FR_XM hFX (FM_r A)) (fun _ _ _ => rfl)⟩
    unfold g_M_seen
    rw [a3 A (hFX _ (by omega)) (hFX _ (by omega)), ob_some, if_neg g2]
  · rw [if_pos (show nI 0 = 0 from rfl)]
    obtain ⟨B, b1, b2⟩ := S_count_s (D := A) (F := F) (by omega) h8 (m := n) (by omega) c0 c1 (ftn (D 117) y (rw_ E s)) (fun hle i hi => c2 i hi (by omega))
    have hFB : FX D B := fun c hc => (b2 c (by omega)).trans (hFX c hc)
    have e117 := hFB 117 (by omega)
    have e137 := hFB 137 (by omega)
    obtain ⟨M, d1, d2⟩ := M_seenBy_s (D := B) (E := E) (F := F) (by omega) (by rw [e117]; exact hW) (y := y) hs hn (by rw [e137]; exact m1) (by rw [e117]; exact ok) (-1) (nI 0)
    rw [b1, ob_some]
    refine ⟨_, B, M, rfl, ?_, RL_q h (FR_XM hFB (FM_ways d2)) (fun _ _ _ => rfl)⟩
    unfold g_M_seen
    rw [a3 B e117 e137, ob_some, if_pos (show (0 : Int32) ≤ nI 0 by decide), d1, ob_some, e117, fmy_m1 _ (by omega)]
theorem op_odd (hF : 20000 ≤ F) (h : RL D E) (a b : Int32) : ∃ r D1, g_X_odd F E a b D = some (r, D1) ∧ g_M_odd F D1 E a b = some r ∧ RL D1 E := by
  have hW := h.1
  have hC := h.2.2.1
  obtain ⟨v, A, a1, a2, a3, a4⟩ := look_s hF h a b
  have hFX : FX D A := fun c hc => a2 c (by omega) (by omega)
  have hRL := RL_q h (FR_XM hFX (FM_r A)) (E' := E) (fun _ _ _ => rfl)
  unfold g_X_odd
  rw [a1, ob_some]
  rcases a4 with ⟨g1, g2⟩ | ⟨rfl, s, y, n, hs, hy, hn, rfl, rfl, m1, ok, c0, c1, c2, hE⟩
  · rw [if_neg g1]
    refine ⟨v, A, rfl, ?_, hRL⟩
    unfold g_M_odd
    rw [a3 A (hFX _ (by omega)) (hFX _ (by omega)), ob_some, if_neg g2]
  · rw [if_pos (show nI 0 = 0 from rfl)]
    have cA : CC A (D 117) := CC_of hC (fun c hc => a2 c (by omega) (by omega))
    have e117 := hFX 117 (by omega)
    have e137 := hFX 137 (by omega)
    have eM : g_M_odd F A E (nI s) (nI y) = some (ff (odd_ (D 117) y (rw_ E s)) n 0) := by
      unfold g_M_odd
      rw [a3 A e117 e137, ob_some, if_pos (show (0 : Int32) ≤ nI 0 by decide), M_odd_s (by omega) (by rw [e117]; exact hW) hs hn (by rw [e137]; exact m1) (by rw [e117]; exact ok), e117]
    refine ⟨ff (odd_ (D 117) y (rw_ E s)) n 0, A, ?_, eM, hRL⟩
    rcases (show s = 0 ∨ s = 1 ∨ s = 2 ∨ s = 3 by omega) with rfl | rfl | rfl | rfl
    · rw [if_pos rfl, X_odd_108 (by omega) cA hW hE hn c0 ok, ob_some]
    · rw [if_neg (by decide), if_pos rfl, X_odd_110 (by omega) cA hW hE hn c0 ok, ob_some]
    · rw [if_neg (by decide), if_neg (by decide), if_pos rfl, X_odd_112 (by omega) cA hW hE hn c0 ok, ob_some]
    · rw [if_neg (by decide), if_neg (by decide), if_neg (by decide), if_pos rfl, X_odd_114 (by omega) cA hW hE hn c0 ok, ob_some]
end SO
