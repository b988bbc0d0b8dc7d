/-! ===== image, back ===== -/
section I2
variable {D : mx_D} {E : mx_E} {w w' : W_} {F : Nat}
def EQ (w w' : W_) : Prop := ∀ i, i < 106 → w' i = w i
theorem WF_ext (hW : WF w) (e : EQ w w') : WF w' := by
  have h8 := wf_A8 hW
  have hH := wf_H8 hW
  have hB := wf_B5 hW
  exact WF_mk hW (fun i hi => e i (by omega)) (h1_c hW (fun i q1 q2 => e i (by omega))) (h2_c hW (fun i q1 q2 => e i (by omega))) (fun x hx => ⟨e _ (by omega), e _ (by omega), e _ (by omega)⟩) (fun x hx => h4_c hW hx (e _ (by omega)) (e _ (by omega))) (fun x hx => h5_c hW hx (e _ (by omega))) (fun x hx => e _ (by omega)) (fun b hb => e _ (by omega)) (fun b hb => h8_c hW hb (e _ (by omega)))
theorem UQ_ext (hW : WF w) (hU : UQ w) (e : EQ w w') : UQ w' := by
  have h8 := wf_A8 hW
  exact UQ_c hU (by unfold nA; rw [e 4 (by omega)]) (fun x hx => ⟨e _ (by omega), e _ (by omega), e _ (by omega)⟩)
theorem CH_ext {c : Nat} (hW : WF w) (hC : CH D c w) (e : EQ w w') : CH D c w' := by
  have h8 := wf_A8 hW
  have hH := wf_H8 hW
  have hB := wf_B5 hW
  have eA : nA w' = nA w := by unfold nA; rw [e 4 (by omega)]
  have eH : nH w' = nH w := by unfold nH; rw [e 5 (by omega)]
  have eB : nB w' = nB w := by unfold nB; rw [e 6 (by omega)]
  obtain ⟨⟨c1, c2, c3, c4, c5, c6, c7, c8⟩, d2, d3, d4, d5, d6⟩ := hC
  refine ⟨⟨by rw [e 0 (by omega)]; exact c1, by rw [e 1 (by omega)]; exact c2, by rw [e 2 (by omega)]; exact c3, by rw [e 3 (by omega)]; exact c4, by rw [e 7 (by omega)]; exact c5, by rw [e 5 (by omega)]; exact c6, by rw [e 6 (by omega)]; exact c7, by rw [e 4 (by omega)]; exact c8⟩, fun j hj => ?_, fun j hj => by rw [e _ (by omega)]; exact d3 j hj, fun x hx => ?_, fun x hx => ?_, fun b hb => ?_⟩
  · rw [e _ (by omega), e _ (by omega), e _ (by omega)]
    exact d2 j hj
  · rw [eA] at hx
    rw [e _ (by omega), e _ (by omega), e _ (by omega), e _ (by omega), e _ (by omega), e _ (by omega)]
    exact d4 x hx
  · rw [eH] at hx
    rw [e _ (by omega)]
    exact d5 x hx
  · rw [eB] at hb
    rw [e _ (by omega), e _ (by omega)]
    exact d6 b hb
theorem rng_lt {α : Type} (a : Int32) {m : Nat} (hm : m + 1 < 2 ^ 31) (P Q : α) : (if a < 0 then P else if a < nI (m + 1) then Q else P) = if vx a (m + 1) = true then Q else P := by
  rw [← rng_s a hm P Q]
  have e : a < nI (m + 1) ↔ a ≤ nI m := by
    rw [Int32.lt_iff_toInt_lt, Int32.le_iff_toInt_le, nI_toInt (by omega), nI_toInt (by omega)]
    omega
  by_cases h : a < nI (m + 1)
  · rw [if_pos h, if_pos (e.mp h)]
  · rw [if_neg h, if_neg (fun q => h (e.mpr q))]
theorem nar_1 : vp_nar .boolean (nI 1) = nI 1 := by decide
/-- the copy into image k, by k -/
theorem X_image_s {k : Nat} (hk : k < 3) (h3 : D 19 3 = nI 0 ∨ D 19 3 = nI 1) : ∃ D', g_X_image (nI k) D = some (nI 0, sD D' 61 k (nI 1)) ∧ (∀ c, c < 63 + 15 * k ∨ 63 + 15 * k + 15 ≤ c → D' c = D c) ∧ SAME D D' (63 + 15 * k) 19 := by
  unfold g_X_image
  rw [rng_lt (nI k) (m := 2) (by decide), vx_nI (by omega), decide_eq_true (by omega), if_pos rfl, nar_1]
  rcases (show k = 0 ∨ k = 1 ∨ k = 2 by omega) with rfl | rfl | rfl
  · obtain ⟨D', h1, h2, h3⟩ := cp_Church_copyOf_63_19 D h3
    rw [if_pos rfl, h1, ob_some, rk_in (by decide) (by decide), nI_clamp (by decide)]
    exact ⟨D', rfl, h2, h3⟩
  · obtain ⟨D', h1, h2, h3⟩ := cp_Church_copyOf_78_19 D h3
    rw [if_neg (by decide), if_pos rfl, h1, ob_some, rk_in (by decide) (by decide), nI_clamp (by decide)]
    exact ⟨D', rfl, h2, h3⟩
  · obtain ⟨D', h1, h2, h3⟩ := cp_Church_copyOf_93_19 D h3
    rw [if_neg (by decide), if_neg (by decide), if_pos rfl, h1, ob_some, rk_in (by decide) (by decide), nI_clamp (by decide)]
    exact ⟨D', rfl, h2, h3⟩
theorem M_image_s (hF : 1000 ≤ F) {k : Nat} (hk : k < 3) : ∃ D', g_M_image F (nI k) D = some (nI 0, sD D' 119 k (nI 1)) ∧ (∀ c, c ≠ 118 → D' c = D c) ∧ (∀ i, i < 106 → D' 118 (106 * k + i) = D 117 i) ∧ (∀ j, (j < 106 * k ∨ 106 * k + 106 ≤ j) → D' 118 j = D 118 j) := by
  unfold g_M_image
  rw [M_in_i (nI k) (n := 2) (by decide), vx_nI (by omega), decide_eq_true (by omega), b01_if, if_pos rfl]
  have key := lp0 (F := F) (s := D) (fun a (s : mx_D) => (∀ c, c ≠ 118 → s c = D c) ∧ (∀ i, i < a → s 118 (106 * k + i) = D 117 i) ∧ (∀ j, (j < 106 * k ∨ 106 * k + 106 ≤ j) → s 118 j = D 118 j)) (fun (r : Int32 × mx_D) => ∃ D', r = (nI 0, sD D' 119 k (nI 1)) ∧ (∀ c, c ≠ 118 → D' c = D c) ∧ (∀ i, i < 106 → D' 118 (106 * k + i) = D 117 i) ∧ (∀ j, (j < 106 * k ∨ 106 * k + 106 ≤ j) → D' 118 j = D 118 j)) (fun f a s => g_M_image_17 F f (nI k) (nI a) s) (n := 106) (by omega) ⟨fun _ _ => rfl, fun i hi => absurd hi (Nat.not_lt_zero i), fun _ _ => rfl⟩ (fun f a s ha hI => ?_) (fun f s hI => ?_)
  · obtain ⟨r, e1, D', e2, e3⟩ := key
    exact ⟨D', by rw [← e2]; exact e1, e3⟩
  · obtain ⟨i1, i2, i3⟩ := hI
    refine ⟨sD s 118 (106 * k + a) (D 117 a), ⟨fun c hc => ?_, fun i hi => ?_, fun j hj => ?_⟩, ?_⟩
    · rw [sD_nr _ _ _ hc, i1 c hc]
    · by_cases c : i = a
      · subst c
        rw [sD_eq]
      · rw [sD_nj _ _ _ (by omega), i2 i (by omega)]
    · rw [sD_nj _ _ _ (by omega), i3 j hj]
    · show g_M_image_17 F (f + 1) _ _ _ = _
      rw [s_M_image_17]
      unfold b_M_image_17
      rw [if_neg (nI_ge ha (by decide)), pk_mul, nI_add, rk_in ha (by decide), rk_in (by omega) (by decide), nI_clamp (by omega), nI_clamp (by omega), i1 117 (by decide), nI_add]
  · refine ⟨_, ?_, s, rfl, hI⟩
    show g_M_image_17 F (f + 1) _ _ _ = _
    rw [s_M_image_17]
    unfold b_M_image_17
    rw [if_pos (by decide), rk_in hk (by decide), nI_clamp (by omega), nar_1]
theorem op_image (hF : 1000 ≤ F) (h : RL D E) (a : Int32) : ∃ r D1 D2, g_X_image a D = some (r, D1) ∧ g_M_image F a D1 = some (r, D2) ∧ RL D2 E := by
  have hW := h.1
  have hC := h.2.2.1
  rcases vx_c a (2 + 1) (by decide) with q | ⟨k, hk, rfl⟩
  · refine ⟨-2, D, D, ?_, ?_, h⟩
    · unfold g_X_image
      rw [rng_lt a (m := 2) (by decide), q]
      rfl
    · unfold g_M_image
      rw [M_in_i a (n := 2) (by decide), q, b01_if]
      rfl
  · obtain ⟨D', x1, x2, x3⟩ := X_image_s (D := D) hk (by rw [c_3 hC]; exact wf_3 hW)
    obtain ⟨D2, m1, m2, m3, m4⟩ := M_image_s (D := sD D' 61 k (nI 1)) hF hk
    refine ⟨nI 0, _, _, x1, m1, ?_⟩
    -- all cells but the images'
    have f : ∀ c, c ≠ 61 → c ≠ 118 → c ≠ 119 → (c < 63 + 15 * k ∨ 63 + 15 * k + 15 ≤ c) → sD D2 119 k (nI 1) c = D c := fun c q1 q2 q3 q4 => by
      rw [sD_nr _ _ _ q3, m2 c q2, sD_nr _ _ _ q1, x2 c q4]
    have fi : ∀ c, 63 + 15 * k ≤ c → c < 63 + 15 * k + 15 → sD D2 119 k (nI 1) c = D' c := fun c q1 q2 => by
      rw [sD_nr _ _ _ (by omega), m2 c (by omega), sD_nr _ _ _ (by omega)]
    have e117 := f 117 (by decide) (by decide) (by decide) (by omega)
    have e116 := f 116 (by decide) (by decide) (by decide) (by omega)
    have eimg : EQ (D 117) (img (sD D2 119 k (nI 1)) k) := fun i hi => by
      unfold img
      rw [sD_nr _ _ _ (by decide), m3 i hi, sD_nr _ _ _ (by decide), x2 117 (by omega)]
    obtain ⟨t, t0, t1, t2, t3⟩ := h.2.2.2.1
    refine ⟨by rw [e117]; exact hW, by rw [e117]; exact h.2.1, ?_, ⟨t, t0, ?_, ?_, fun j hj => ?_⟩, ?_, fun k2 hk2 => ?_, fun s hs => ?_⟩
    · rw [e117]
      exact CH_of hC (fun c q1 q2 => f c (by omega) (by omega) (by omega) (by omega))
    · rw [f 1 (by omega) (by omega) (by omega) (by omega)]; exact t1
    · rw [e116]; exact t2
    · rw [f 2 (by omega) (by omega) (by omega) (by omega), f 120 (by omega) (by omega) (by omega) (by omega)]
      exact t3 j hj
    · rw [f 3 (by omega) (by omega) (by omega) (by omega), e116]
      exact h.2.2.2.2.1
    · unfold IM
      by_cases c : k2 = k
      · subst c
        rw [sD_ne _ _ _ _ (show 61 ≠ 119 by decide), m2 61 (by decide), sD_eq, sD_eq]
        refine ⟨rfl, Or.inr ⟨rfl, ?_, WF_ext hW eimg, UQ_ext hW h.2.1 eimg⟩⟩
        have hs := CH_same hW hC x3
        exact CH_ext hW (CH_of hs (fun c q1 q2 => fi c q1 q2)) eimg
      · have q := h.2.2.2.2.2.1 k2 hk2
        unfold IM at q
        have e2 : EQ (img D k2) (img (sD D2 119 k (nI 1)) k2) := fun i hi => by
          unfold img
          rw [sD_nr _ _ _ (by decide), m4 _ (by omega), sD_nr _ _ _ (by decide), x2 118 (by omega)]
        rw [sD_ne _ _ _ _ (show 61 ≠ 119 by decide), m2 61 (by decide), sD_nj _ _ _ c, sD_nj _ _ _ c, m2 119 (by decide), sD_ne _ _ _ _ (show 119 ≠ 61 by decide), x2 61 (by omega), x2 119 (by omega)]
        refine ⟨q.1, q.2.imp id (fun z => ⟨z.1, ?_, WF_ext z.2.2.1 e2, UQ_ext z.2.2.1 z.2.2.2 e2⟩)⟩
        exact CH_ext z.2.2.1 (CH_of z.2.1 (fun c q1 q2 => f c (by omega) (by omega) (by omega) (by omega))) e2
    · have q := h.2.2.2.2.2.2 s hs
      unfold SL at q ⊢
      rw [f (108 + 2 * s) (by omega) (by omega) (by omega) (by omega), f 137 (by omega) (by omega) (by omega) (by omega), f 138 (by omega) (by omega) (by omega) (by omega)]
      exact q
/-- back -/
theorem X_back_s {k : Nat} (hk : k < 3) (h1 : D 61 k = nI 1) (h3 : D (63 + 15 * k) 3 = nI 0 ∨ D (63 + 15 * k) 3 = nI 1) : ∃ D', g_X_back (nI k) D = some (nI 0, D') ∧ (∀ c, c < 19 ∨ 34 ≤ c → D' c = D c) ∧ SAME D D' 19 (63 + 15 * k) := by
  unfold g_X_back
  rw [rng_lt (nI k) (m := 2) (by decide), vx_nI (by omega), decide_eq_true (by omega), if_pos rfl, rk_in hk (by decide), nI_clamp (by omega), h1, if_neg (show ¬ nI 1 = 0 by decide)]
  rcases (show k = 0 ∨ k = 1 ∨ k = 2 by omega) with rfl | rfl | rfl
  · obtain ⟨D', h1, h2, h3⟩ := cp_Church_copyOf_63 D h3
    rw [if_pos rfl, h1, ob_some]
    exact ⟨D', rfl, h2, h3⟩
  · obtain ⟨D', h1, h2, h3⟩ := cp_Church_copyOf_78 D h3
    rw [if_neg (by decide), if_pos rfl, h1, ob_some]
    exact ⟨D', rfl, h2, h3⟩
  · obtain ⟨D', h1, h2, h3⟩ := cp_Church_copyOf_93 D h3
    rw [if_neg (by decide), if_neg (by decide), if_pos rfl, h1, ob_some]
    exact ⟨D', rfl, h2, h3⟩
theorem op_back (hF : 1000 ≤ F) (h : RL D E) (a : Int32) : ∃ r D1 D2, g_X_back a D = some (r, D1) ∧ g_M_back F a D1 = some (r, D2) ∧ RL D2 E := by
  rcases vx_c a (2 + 1) (by decide) with q | ⟨k, hk, rfl⟩
  · refine ⟨-2, D, D, ?_, ?_, h⟩
    · unfold g_X_back
      rw [rng_lt a (m := 2) (by decide), q]
      rfl
    · unfold g_M_back
      rw [M_in_i a (n := 2) (by decide), q, b01_if]
      rfl
  · have hI := h.2.2.2.2.2.1 k hk
    unfold IM at hI
    rcases hI with ⟨i1, i2 | ⟨i2, i3, i4, i5⟩⟩
    · refine ⟨-6, D, D, ?_, ?_, h⟩
      · unfold g_X_back
        rw [rng_lt (nI k) (m := 2) (by decide), vx_nI (by omega), decide_eq_true (by omega), if_pos rfl, rk_in hk (by decide), nI_clamp (by omega), i2, if_pos (show nI 0 = 0 from rfl)]
      · unfold g_M_back
        rw [M_in_i (nI k) (n := 2) (by decide), vx_nI (by omega), decide_eq_true (by omega), b01_if, if_pos rfl, rk_in hk (by decide), nI_clamp (by omega), ← i1, i2, if_pos (show nI 0 = 0 from rfl)]
    · obtain ⟨D', x1, x2, x3⟩ := X_back_s (D := D) hk i2 (by rw [i3.1.2.2.2.1]; exact wf_3 i4)
      have key := lp0 (F := F) (s := D') (fun a (s : mx_D) => (∀ c, c ≠ 117 → s c = D' c) ∧ (∀ i, i < a → s 117 i = D' 118 (106 * k + i))) (fun (r : Int32 × mx_D) => r.1 = nI 0 ∧ (∀ c, c ≠ 117 → r.2 c = D' c) ∧ (∀ i, i < 106 → r.2 117 i = D' 118 (106 * k + i))) (fun f a s => g_M_back_29 F f (nI k) (nI a) s) (n := 106) (by omega) ⟨fun _ _ => rfl, fun i hi => absurd hi (Nat.not_lt_zero i)⟩ (fun f a s ha hI => ?_) (fun f s hI => ?_)
      · obtain ⟨r, k1, k2, k3, k4⟩ := key
        refine ⟨nI 0, D', r.2, x1, ?_, ?_⟩
        · unfold g_M_back
          rw [M_in_i (nI k) (n := 2) (by decide), vx_nI (by omega), decide_eq_true (by omega), b01_if, if_pos rfl, rk_in hk (by decide), nI_clamp (by omega), x2 119 (by omega), ← i1, i2, if_neg (show ¬ nI 1 = 0 by decide)]
          exact k1.trans (congrArg some (Prod.ext k2 rfl))
        · have e2 : EQ (img D k) (r.2 117) := fun i hi => by
            rw [k4 i hi, x2 118 (by omega)]
            rfl
          refine RL_c h (WF_ext i4 e2) (UQ_ext i4 i5 e2) ?_ (fun c q1 q2 => by rw [k3 c q2, x2 c (by omega)])
          exact CH_ext i4 (CH_of (CH_same i4 i3 x3) (fun c q1 q2 => k3 c (by omega))) e2
      · refine ⟨sD s 117 a (D' 118 (106 * k + a)), ⟨fun c hc => ?_, fun i hi => ?_⟩, ?_⟩
        · rw [sD_nr _ _ _ hc, hI.1 c hc]
        · by_cases c : i = a
          · subst c
            rw [sD_eq]
          · rw [sD_nj _ _ _ c, hI.2 i (by omega)]
        · show g_M_back_29 F (f + 1) _ _ _ = _
          rw [s_M_back_29]
          unfold b_M_back_29
          rw [if_neg (nI_ge ha (by decide)), pk_mul, nI_add, rk_in (by omega) (by decide), rk_in ha (by decide), nI_clamp (by omega), nI_clamp (by omega), hI.1 118 (by decide), nI_add]
      · refine ⟨(nI 0, s), ?_, rfl, hI⟩
        show g_M_back_29 F (f + 1) _ _ _ = _
        rw [s_M_back_29]
        unfold b_M_back_29
        rw [if_pos (by decide)]
end I2
