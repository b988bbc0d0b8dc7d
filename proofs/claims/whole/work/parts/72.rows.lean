/-! ===== rows ===== -/
section RO
variable {D : mx_D} {E : mx_E} {F : Nat}
theorem isSlot_x (a : Int32) : g_X_isSlot a = b01 (vx a 4) := by
  unfold g_X_isSlot
  rw [← has_s a (n := 4) (by decide)]
theorem fill2_109 (hF : 100 ≤ F) (v : Int64) (E : mx_E) : ∃ E', g_Arrays_fill2_109 F v E = some E' ∧ (∀ c, c ≠ 109 → E' c = E c) ∧ ∀ j, j < 60 → E' 109 j = v := by
  unfold g_Arrays_fill2_109
  refine lp0 (F := F) (fun a (s : mx_E) => (∀ c, c ≠ 109 → s c = E c) ∧ ∀ j, j < a → s 109 j = v) (fun E' => (∀ c, c ≠ 109 → E' c = E c) ∧ ∀ j, j < 60 → E' 109 j = v) (fun f a s => g_Arrays_fill2_109_6 F f v (nI a) (nI 60) s) (n := 60) (by omega) ⟨fun _ _ => rfl, fun x hx => absurd hx (Nat.not_lt_zero x)⟩ (fun f a s ha hI => ?_) (fun f s hI => ?_)
  · refine ⟨sE s 109 a v, ⟨fun c hc => ?_, fun j hj => ?_⟩, ?_⟩
    · rw [sE_nr _ _ _ hc, hI.1 c hc]
    · by_cases q : j = a
      · subst q
        rw [sE_eq]
      · rw [sE_nj _ _ _ q, hI.2 j (by omega)]
    · rw [s_Arrays_fill2_109_6]
      unfold b_Arrays_fill2_109_6
      rw [if_neg (nI_ge ha (by decide)), rk_in ha (by decide), nI_clamp (by omega), nI_add]
  · refine ⟨s, ?_, hI⟩
    rw [s_Arrays_fill2_109_6]
    unfold b_Arrays_fill2_109_6
    rw [if_pos (nI_le (Nat.le_refl _) (by decide))]
theorem fill2_111 (hF : 100 ≤ F) (v : Int64) (E : mx_E) : ∃ E', g_Arrays_fill2_111 F v E = some E' ∧ (∀ c, c ≠ 111 → E' c = E c) ∧ ∀ j, j < 60 → E' 111 j = v := by
  unfold g_Arrays_fill2_111
  refine lp0 (F := F) (fun a (s : mx_E) => (∀ c, c ≠ 111 → s c = E c) ∧ ∀ j, j < a → s 111 j = v) (fun E' => (∀ c, c ≠ 111 → E' c = E c) ∧ ∀ j, j < 60 → E' 111 j = v) (fun f a s => g_Arrays_fill2_111_6 F f v (nI a) (nI 60) s) (n := 60) (by omega) ⟨fun _ _ => rfl, fun x hx => absurd hx (Nat.not_lt_zero x)⟩ (fun f a s ha hI => ?_) (fun f s hI => ?_)
  · refine ⟨sE s 111 a v, ⟨fun c hc => ?_, fun j hj => ?_⟩, ?_⟩
    · rw [sE_nr _ _ _ hc, hI.1 c hc]
    · by_cases q : j = a
      · subst q
        rw [sE_eq]
      · rw [sE_nj _ _ _ q, hI.2 j (by omega)]
    · rw [s_Arrays_fill2_111_6]
      unfold b_Arrays_fill2_111_6
      rw [if_neg (nI_ge ha (by decide)), rk_in ha (by decide), nI_clamp (by omega), nI_add]
  · refine ⟨s, ?_, hI⟩
    rw [s_Arrays_fill2_111_6]
    unfold b_Arrays_fill2_111_6
    rw [if_pos (nI_le (Nat.le_refl _) (by decide))]
theorem fill2_113 (hF : 100 ≤ F) (v : Int64) (E : mx_E) : ∃ E', g_Arrays_fill2_113 F v E = some E' ∧ (∀ c, c ≠ 113 → E' c = E c) ∧ ∀ j, j < 60 → E' 113 j = v := by
  unfold g_Arrays_fill2_113
  refine lp0 (F := F) (fun a (s : mx_E) => (∀ c, c ≠ 113 → s c = E c) ∧ ∀ j, j < a → s 113 j = v) (fun E' => (∀ c, c ≠ 113 → E' c = E c) ∧ ∀ j, j < 60 → E' 113 j = v) (fun f a s => g_Arrays_fill2_113_6 F f v (nI a) (nI 60) s) (n := 60) (by omega) ⟨fun _ _ => rfl, fun x hx => absurd hx (Nat.not_lt_zero x)⟩ (fun f a s ha hI => ?_) (fun f s hI => ?_)
  · refine ⟨sE s 113 a v, ⟨fun c hc => ?_, fun j hj => ?_⟩, ?_⟩
    · rw [sE_nr _ _ _ hc, hI.1 c hc]
    · by_cases q : j = a
      · subst q
        rw [sE_eq]
      · rw [sE_nj _ _ _ q, hI.2 j (by omega)]
    · rw [s_Arrays_fill2_113_6]
      unfold b_Arrays_fill2_113_6
      rw [if_neg (nI_ge ha (by decide)), rk_in ha (by decide), nI_clamp (by omega), nI_add]
  · refine ⟨s, ?_, hI⟩
    rw [s_Arrays_fill2_113_6]
    unfold b_Arrays_fill2_113_6
    rw [if_pos (nI_le (Nat.le_refl _) (by decide))]
theorem fill2_115 (hF : 100 ≤ F) (v : Int64) (E : mx_E) : ∃ E', g_Arrays_fill2_115 F v E = some E' ∧ (∀ c, c ≠ 115 → E' c = E c) ∧ ∀ j, j < 60 → E' 115 j = v := by
  unfold g_Arrays_fill2_115
  refine lp0 (F := F) (fun a (s : mx_E) => (∀ c, c ≠ 115 → s c = E c) ∧ ∀ j, j < a → s 115 j = v) (fun E' => (∀ c, c ≠ 115 → E' c = E c) ∧ ∀ j, j < 60 → E' 115 j = v) (fun f a s => g_Arrays_fill2_115_6 F f v (nI a) (nI 60) s) (n := 60) (by omega) ⟨fun _ _ => rfl, fun x hx => absurd hx (Nat.not_lt_zero x)⟩ (fun f a s ha hI => ?_) (fun f s hI => ?_)
  · refine ⟨sE s 115 a v, ⟨fun c hc => ?_, fun j hj => ?_⟩, ?_⟩
    · rw [sE_nr _ _ _ hc, hI.1 c hc]
    · by_cases q : j = a
      · subst q
        rw [sE_eq]
      · rw [sE_nj _ _ _ q, hI.2 j (by omega)]
    · rw [s_Arrays_fill2_115_6]
      unfold b_Arrays_fill2_115_6
      rw [if_neg (nI_ge ha (by decide)), rk_in ha (by decide), nI_clamp (by omega), nI_add]
  · refine ⟨s, ?_, hI⟩
    rw [s_Arrays_fill2_115_6]
    unfold b_Arrays_fill2_115_6
    rw [if_pos (nI_le (Nat.le_refl _) (by decide))]
/-- a tie in which one slot alone is another -/
theorem RL_s {D2 : mx_D} {E2 : mx_E} (h : RL D E) {s : Nat} (hs : s < 4) (hS : SL D2 E2 s) (f : ∀ c, c ≠ 108 + 2 * s → c ≠ 137 → c ≠ 138 → D2 c = D c) (f2 : ∀ j, j ≠ s → D2 137 j = D 137 j ∧ D2 138 j = D 138 j) (g : ∀ c, c ≠ 109 + 2 * s → c ≠ 139 → c ≠ 140 → E2 c = E c) (g2 : ∀ j, (j < 60 * s ∨ 60 * s + 60 ≤ j) → E2 139 j = E 139 j) : RL D2 E2 := by
  obtain ⟨h1, h2, h3, h4, h5, h6, h7⟩ := h
  have e := f 117 (by omega) (by omega) (by omega)
  refine ⟨by rw [e]; exact h1, by rw [e]; exact h2, ?_, ?_, ?_, fun k hk => ?_, fun s2 hs2 => ?_⟩
  · rw [e]
    exact CH_of h3 (fun k q1 q2 => f k (by omega) (by omega) (by omega))
  · obtain ⟨t, q1, q2, q3, q4⟩ := h4
    exact ⟨t, q1, by rw [f 1 (by omega) (by omega) (by omega)]; exact q2, by rw [f 116 (by omega) (by omega) (by omega)]; exact q3, fun j hj => by rw [f 2 (by omega) (by omega) (by omega), f 120 (by omega) (by omega) (by omega)]; exact q4 j hj⟩
  · rw [f 3 (by omega) (by omega) (by omega), f 116 (by omega) (by omega) (by omega)]
    exact h5
  · have q := h6 k hk
    have ei : img D2 k = img D k := by unfold img; rw [f 118 (by omega) (by omega) (by omega)]
    unfold IM at q ⊢
    rw [f 61 (by omega) (by omega) (by omega), f 119 (by omega) (by omega) (by omega), ei]
    exact ⟨q.1, q.2.imp id (fun z => ⟨z.1, CH_of z.2.1 (fun k q1 q2 => f k (by omega) (by omega) (by omega)), z.2.2⟩)⟩
  · by_cases c : s2 = s
    · subst c
      exact hS
    · have q := h7 s2 hs2
      unfold SL at q ⊢
      rw [(f2 s2 c).1, (f2 s2 c).2, f (108 + 2 * s2) (by omega) (by omega) (by omega)]
      refine q.imp id (fun ⟨m, wd, z1, z2, z3, z4, z5, z6, z7, z8⟩ => ⟨m, wd, z1, z2, z3, z4, z5, z6, z7, fun i hi => ?_⟩)
      rw [g (109 + 2 * s2) (by omega) (by omega) (by omega), g2 _ (by omega)]
      exact z8 i hi
/-- a new row, by the slot -/
theorem X_row_s (hF : 1000 ≤ F) {s : Nat} (hs : s < 4) {wd m : Nat} (hw : wd < 4) (hm : m ≤ 60) : ∃ D1 E1, g_X_row F (nI s) (nI wd) (nI m) D E = some (nI 0, D1, E1) ∧ (∀ c, c ≠ 108 + 2 * s → D1 c = D c) ∧ D1 (108 + 2 * s) 1 = nI 1 ∧ D1 (108 + 2 * s) 2 = nI wd ∧ D1 (108 + 2 * s) 3 = nI m ∧ (∀ c, c ≠ 109 + 2 * s → E1 c = E c) ∧ ∀ i, i < 60 → E1 (109 + 2 * s) i = lN 0 := by
  unfold g_X_row
  rw [isSlot_x, vx_nI (by omega), decide_eq_true hs, b01_if, if_pos rfl, if_neg (nI_pos (by omega)), if_neg (nI_ge hw (by decide)), if_pos (nI_le hm (by decide)), if_pos (nI_pos' (by omega))]
  rcases (show s = 0 ∨ s = 1 ∨ s = 2 ∨ s = 3 by omega) with rfl | rfl | rfl | rfl
  · obtain ⟨E1, e1, e2, e3⟩ := fill2_109 (F := F) (by omega) (lN 0) E
    rw [if_pos rfl]
    unfold g_Row_begin_108
    rw [e1, ob_some, ob_some]
    refine ⟨sD (sD (sD D 108 1 (nI 1)) 108 2 (nI wd)) 108 3 (nI m), E1, rfl, fun c hc => ?_, ?_, ?_, ?_, e2, e3⟩
    · have hc : c ≠ 108 := hc
      rw [sD_nr _ _ _ hc, sD_nr _ _ _ hc, sD_nr _ _ _ hc]
    · show sD (sD (sD D 108 1 (nI 1)) 108 2 (nI wd)) 108 3 (nI m) 108 1 = _
      rw [sD_nj _ _ _ (by decide), sD_nj _ _ _ (by decide), sD_eq]
    · show sD (sD (sD D 108 1 (nI 1)) 108 2 (nI wd)) 108 3 (nI m) 108 2 = _
      rw [sD_nj _ _ _ (by decide), sD_eq]
    · show sD (sD (sD D 108 1 (nI 1)) 108 2 (nI wd)) 108 3 (nI m) 108 3 = _
      rw [sD_eq]
  · obtain ⟨E1, e1, e2, e3⟩ := fill2_111 (F := F) (by omega) (lN 0) E
    rw [if_neg (by decide), if_pos rfl]
    unfold g_Row_begin_110
    rw [e1, ob_some, ob_some]
    refine ⟨sD (sD (sD D 110 1 (nI 1)) 110 2 (nI wd)) 110 3 (nI m), E1, rfl, fun c hc => ?_, ?_, ?_, ?_, e2, e3⟩
    · have hc : c ≠ 110 := hc
      rw [sD_nr _ _ _ hc, sD_nr _ _ _ hc, sD_nr _ _ _ hc]
    · show sD (sD (sD D 110 1 (nI 1)) 110 2 (nI wd)) 110 3 (nI m) 110 1 = _
      rw [sD_nj _ _ _ (by decide), sD_nj _ _ _ (by decide), sD_eq]
    · show sD (sD (sD D 110 1 (nI 1)) 110 2 (nI wd)) 110 3 (nI m) 110 2 = _
      rw [sD_nj _ _ _ (by decide), sD_eq]
    · show sD (sD (sD D 110 1 (nI 1)) 110 2 (nI wd)) 110 3 (nI m) 110 3 = _
      rw [sD_eq]
  · obtain ⟨E1, e1, e2, e3⟩ := fill2_113 (F := F) (by omega) (lN 0) E
    rw [if_neg (by decide), if_neg (by decide), if_pos rfl]
    unfold g_Row_begin_112
    rw [e1, ob_some, ob_some]
    refine ⟨sD (sD (sD D 112 1 (nI 1)) 112 2 (nI wd)) 112 3 (nI m), E1, rfl, fun c hc => ?_, ?_, ?_, ?_, e2, e3⟩
    · have hc : c ≠ 112 := hc
      rw [sD_nr _ _ _ hc, sD_nr _ _ _ hc, sD_nr _ _ _ hc]
    · show sD (sD (sD D 112 1 (nI 1)) 112 2 (nI wd)) 112 3 (nI m) 112 1 = _
      rw [sD_nj _ _ _ (by decide), sD_nj _ _ _ (by decide), sD_eq]
    · show sD (sD (sD D 112 1 (nI 1)) 112 2 (nI wd)) 112 3 (nI m) 112 2 = _
      rw [sD_nj _ _ _ (by decide), sD_eq]
    · show sD (sD (sD D 112 1 (nI 1)) 112 2 (nI wd)) 112 3 (nI m) 112 3 = _
      rw [sD_eq]
  · obtain ⟨E1, e1, e2, e3⟩ := fill2_115 (F := F) (by omega) (lN 0) E
    rw [if_neg (by decide), if_neg (by decide), if_neg (by decide), if_pos rfl]
    unfold g_Row_begin_114
    rw [e1, ob_some, ob_some]
    refine ⟨sD (sD (sD D 114 1 (nI 1)) 114 2 (nI wd)) 114 3 (nI m), E1, rfl, fun c hc => ?_, ?_, ?_, ?_, e2, e3⟩
    · have hc : c ≠ 114 := hc
      rw [sD_nr _ _ _ hc, sD_nr _ _ _ hc, sD_nr _ _ _ hc]
    · show sD (sD (sD D 114 1 (nI 1)) 114 2 (nI wd)) 114 3 (nI m) 114 1 = _
      rw [sD_nj _ _ _ (by decide), sD_nj _ _ _ (by decide), sD_eq]
    · show sD (sD (sD D 114 1 (nI 1)) 114 2 (nI wd)) 114 3 (nI m) 114 2 = _
      rw [sD_nj _ _ _ (by decide), sD_eq]
    · show sD (sD (sD D 114 1 (nI 1)) 114 2 (nI wd)) 114 3 (nI m) 114 3 = _
      rw [sD_eq]
theorem op_row (hF : 1000 ≤ F) (h : RL D E) (a b n : Int32) : ∃ r D1 E1 D2 E2, g_X_row F a b n D E = some (r, D1, E1) ∧ g_M_row F a b n D1 E1 = some (r, D2, E2) ∧ RL D2 E2 := by
  have bad : ∀ r, g_X_row F a b n D E = some (r, D, E) → g_M_row F a b n D E = some (r, D, E) → ∃ r D1 E1 D2 E2, g_X_row F a b n D E = some (r, D1, E1) ∧ g_M_row F a b n D1 E1 = some (r, D2, E2) ∧ RL D2 E2 := fun r q1 q2 => ⟨r, D, E, D, E, q1, q2, h⟩
  have hx4 : ∀ (P Q : Option (Int32 × mx_D × mx_E)), (if b < 0 then P else if nI 4 ≤ b then P else Q) = if vx b 4 = true then Q else P := by
    intro P Q
    have e := has_s b (n := 4) (by decide)
    by_cases h1 : b < 0
    · rw [if_pos h1] at e ⊢
      cases hv : vx b 4
      · rfl
      · rw [hv] at e
        exact absurd e (by decide)
    · rw [if_neg h1] at e ⊢
      by_cases h2 : nI 4 ≤ b
      · rw [if_pos h2] at e ⊢
        cases hv : vx b 4
        · rfl
        · rw [hv] at e
          exact absurd e (by decide)
      · rw [if_neg h2] at e ⊢
        cases hv : vx b 4
        · rw [hv] at e
          exact absurd e (by decide)
        · rfl
  rcases vx_c a 4 (by decide) with q | ⟨s, hs, rfl⟩
  · refine bad (-2) ?_ ?_
    · unfold g_X_row
      rw [isSlot_x, q, b01_if]
      rfl
    · unfold g_M_row
      rw [M_isSlot_s, q, b01_if]
      rfl
  · rcases vx_c b (3 + 1) (by decide) with q | ⟨wd, hw, rfl⟩
    · refine bad (-2) ?_ ?_
      · unfold g_X_row
        rw [isSlot_x, vx_nI (by omega), decide_eq_true hs, b01_if, if_pos rfl, hx4, q]
        rfl
      · unfold g_M_row
        rw [M_isSlot_s, vx_nI (by omega), decide_eq_true hs, b01_if, if_pos rfl, M_in_i b (n := 3) (by decide), q, b01_if]
        rfl
    · have hx : ∀ P Q : Option (Int32 × mx_D × mx_E), (if nI wd < 0 then P else if nI 4 ≤ nI wd then P else Q) = Q := fun P Q => by rw [if_neg (nI_pos (by omega)), if_neg (nI_ge hw (by decide))]
      by_cases q1 : n ≤ nI 60
      · by_cases q2 : 0 ≤ n
        · obtain ⟨m, hm, rfl⟩ := nI_of (x := n) (by
            rw [Int32.lt_iff_toInt_lt]
            rw [Int32.le_iff_toInt_le] at q2
            omega)
          have hm60 : m ≤ 60 := (nI_leI hm (by decide)).mp q1
          obtain ⟨D1, E1, x1, x2, x3, x4, x5, x6, x7⟩ := X_row_s (D := D) (E := E) hF hs hw hm60
          have key := lp0 (F := F) (s := E1) (fun i (t : mx_E) => (∀ c, c ≠ 139 → t c = E1 c) ∧ (∀ j, j < i → t 139 (60 * s + j) = lN 0) ∧ (∀ j, (j < 60 * s ∨ 60 * s + 60 ≤ j) → t 139 j = E1 139 j)) (fun (r : Int32 × mx_D × mx_E) => r.1 = nI 0 ∧ r.2.1 = sD (sD D1 137 s (nI m)) 138 s (nI wd) ∧ (∀ c, c ≠ 139 → r.2.2 c = E1 c) ∧ (∀ j, j < 60 → r.2.2 139 (60 * s + j) = lN 0) ∧ (∀ j, (j < 60 * s ∨ 60 * s + 60 ≤ j) → r.2.2 139 j = E1 139 j)) (fun f i t => g_M_row_52 F f (nI s) (nI i) (sD (sD D1 137 s (nI m)) 138 s (nI wd)) t) (n := 60) (by omega) ⟨fun _ _ => rfl, fun j hj => absurd hj (Nat.not_lt_zero j), fun _ _ => rfl⟩ (fun f i t hi hI => ?_) (fun f t hI => ?_)
          · obtain ⟨r, k1, k2, k3, k4, k5, k6⟩ := key
            refine ⟨nI 0, D1, E1, sD (sD D1 137 s (nI m)) 138 s (nI wd), r.2.2, x1, ?_, ?_⟩
            · unfold g_M_row
              rw [M_isSlot_s, vx_nI (by omega), decide_eq_true hs, b01_if, if_pos rfl, M_in_i (nI wd) (n := 3) (by decide), vx_nI (by omega), decide_eq_true hw, b01_if, if_pos rfl, if_pos q1, if_pos q2, rk_in (by omega) (by decide), rk_in (by omega) (by decide), nI_clamp (by omega)]
              exact k1.trans (congrArg some (Prod.ext k2 (Prod.ext k3 rfl)))
            · refine RL_s h hs (Or.inr ⟨m, wd, hm60, hw, ?_, ?_, ?_, ?_, ?_, fun i hi => ?_⟩) (fun c z1 z2 z3 => ?_) (fun j hj => ⟨?_, ?_⟩) (fun c z1 z2 z3 => ?_) (fun j hj => ?_)
              · rw [sD_ne _ _ _ _ (by decide), sD_eq]
              · rw [sD_ne _ _ _ _ (by omega), sD_ne _ _ _ _ (by omega), x3]
              · rw [sD_ne _ _ _ _ (by omega), sD_ne _ _ _ _ (by omega), x5]
              · rw [sD_ne _ _ _ _ (by omega), sD_ne _ _ _ _ (by omega), x4]
              · rw [sD_eq]
              · rw [k4 _ (by omega), x7 i hi, k5 i hi]
              · rw [sD_nr _ _ _ z3, sD_nr _ _ _ z2, x2 c z1]
              · rw [sD_ne _ _ _ _ (by decide), sD_nj _ _ _ hj, x2 137 (by omega)]
              · rw [sD_nj _ _ _ hj, sD_ne _ _ _ _ (by decide), x2 138 (by omega)]
              · rw [k4 c z2, x6 c z1]
              · rw [k6 j hj, x6 139 (by omega)]
          · refine ⟨sE t 139 (60 * s + i) (lN 0), ⟨fun c hc => ?_, fun j hj => ?_, fun j hj => ?_⟩, ?_⟩
            · rw [sE_nr _ _ _ hc, hI.1 c hc]
            · by_cases c : j = i
              · subst c
                rw [sE_eq]
              · rw [sE_nj _ _ _ (by omega), hI.2.1 j (by omega)]
            · rw [sE_nj _ _ _ (by omega), hI.2.2 j hj]
            · show g_M_row_52 F (f + 1) _ _ _ _ = _
              rw [s_M_row_52]
              unfold b_M_row_52
              rw [if_neg (nI_ge hi (by decide)), pk_mul, nI_add, rk_in (by omega) (by decide), nI_clamp (by omega), nI_add]
          · refine ⟨(nI 0, sD (sD D1 137 s (nI m)) 138 s (nI wd), t), ?_, rfl, rfl, hI⟩
            show g_M_row_52 F (f + 1) _ _ _ _ = _
            rw [s_M_row_52]
            unfold b_M_row_52
            rw [if_pos (by decide)]
        · refine bad (-3) ?_ ?_
          · unfold g_X_row
            rw [isSlot_x, vx_nI (by omega), decide_eq_true hs, b01_if, if_pos rfl, hx, if_pos q1, if_neg q2]
          · unfold g_M_row
            rw [M_isSlot_s, vx_nI (by omega), decide_eq_true hs, b01_if, if_pos rfl, M_in_i (nI wd) (n := 3) (by decide), vx_nI (by omega), decide_eq_true hw, b01_if, if_pos rfl, if_pos q1, if_neg q2]
      · refine bad (-2) ?_ ?_
        · unfold g_X_row
          rw [isSlot_x, vx_nI (by omega), decide_eq_true hs, b01_if, if_pos rfl, hx, if_neg q1]
        · unfold g_M_row
          rw [M_isSlot_s, vx_nI (by omega), decide_eq_true hs, b01_if, if_pos rfl, M_in_i (nI wd) (n := 3) (by decide), vx_nI (by omega), decide_eq_true hw, b01_if, if_pos rfl, if_neg q1]
end RO
