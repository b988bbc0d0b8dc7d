/-! ===== church ===== -/
section CP
variable {D D' : mx_D} {E : mx_E} {w w' : W_} {F : Nat}
theorem fill_5 (hF : 100 ≤ F) (v : Int32) (D : mx_D) : ∃ D', g_Arrays_fill_5 F v D = some D' ∧ (∀ c, c ≠ 5 → D' c = D c) ∧ ∀ j, j < 4 → D' 5 j = v := by
  unfold g_Arrays_fill_5
  refine lp0 (F := F) (fun a (s : mx_D) => (∀ c, c ≠ 5 → s c = D c) ∧ ∀ j, j < a → s 5 j = v) (fun D' => (∀ c, c ≠ 5 → D' c = D c) ∧ ∀ j, j < 4 → D' 5 j = v) (fun f a s => g_Arrays_fill_5_5 F f v (nI a) (nI 4) s) (n := 4) (by omega) ⟨fun _ _ => rfl, fun x hx => absurd hx (Nat.not_lt_zero x)⟩ (fun f a s ha hI => ?_) (fun f s hI => ?_)
  · refine ⟨sD s 5 a v, ⟨fun c hc => ?_, fun j hj => ?_⟩, ?_⟩
    · rw [sD_nr _ _ _ hc, hI.1 c hc]
    · by_cases q : j = a
      · subst q
        rw [sD_eq]
      · rw [sD_nj _ _ _ q, hI.2 j (by omega)]
    · rw [s_Arrays_fill_5_5]
      unfold b_Arrays_fill_5_5
      rw [if_neg (nI_ge ha (by decide)), rk_in ha (by decide), nI_clamp (by omega), nI_add]
  · refine ⟨s, ?_, hI⟩
    rw [s_Arrays_fill_5_5]
    unfold b_Arrays_fill_5_5
    rw [if_pos (nI_le (Nat.le_refl _) (by decide))]
theorem fill_6 (hF : 100 ≤ F) (v : Int32) (D : mx_D) : ∃ D', g_Arrays_fill_6 F v D = some D' ∧ (∀ c, c ≠ 6 → D' c = D c) ∧ ∀ j, j < 4 → D' 6 j = v := by
  unfold g_Arrays_fill_6
  refine lp0 (F := F) (fun a (s : mx_D) => (∀ c, c ≠ 6 → s c = D c) ∧ ∀ j, j < a → s 6 j = v) (fun D' => (∀ c, c ≠ 6 → D' c = D c) ∧ ∀ j, j < 4 → D' 6 j = v) (fun f a s => g_Arrays_fill_6_5 F f v (nI a) (nI 4) s) (n := 4) (by omega) ⟨fun _ _ => rfl, fun x hx => absurd hx (Nat.not_lt_zero x)⟩ (fun f a s ha hI => ?_) (fun f s hI => ?_)
  · refine ⟨sD s 6 a v, ⟨fun c hc => ?_, fun j hj => ?_⟩, ?_⟩
    · rw [sD_nr _ _ _ hc, hI.1 c hc]
    · by_cases q : j = a
      · subst q
        rw [sD_eq]
      · rw [sD_nj _ _ _ q, hI.2 j (by omega)]
    · rw [s_Arrays_fill_6_5]
      unfold b_Arrays_fill_6_5
      rw [if_neg (nI_ge ha (by decide)), rk_in ha (by decide), nI_clamp (by omega), nI_add]
  · refine ⟨s, ?_, hI⟩
    rw [s_Arrays_fill_6_5]
    unfold b_Arrays_fill_6_5
    rw [if_pos (nI_le (Nat.le_refl _) (by decide))]
theorem fill_7 (hF : 100 ≤ F) (v : Int32) (D : mx_D) : ∃ D', g_Arrays_fill_7 F v D = some D' ∧ (∀ c, c ≠ 7 → D' c = D c) ∧ ∀ j, j < 4 → D' 7 j = v := by
  unfold g_Arrays_fill_7
  refine lp0 (F := F) (fun a (s : mx_D) => (∀ c, c ≠ 7 → s c = D c) ∧ ∀ j, j < a → s 7 j = v) (fun D' => (∀ c, c ≠ 7 → D' c = D c) ∧ ∀ j, j < 4 → D' 7 j = v) (fun f a s => g_Arrays_fill_7_5 F f v (nI a) (nI 4) s) (n := 4) (by omega) ⟨fun _ _ => rfl, fun x hx => absurd hx (Nat.not_lt_zero x)⟩ (fun f a s ha hI => ?_) (fun f s hI => ?_)
  · refine ⟨sD s 7 a v, ⟨fun c hc => ?_, fun j hj => ?_⟩, ?_⟩
    · rw [sD_nr _ _ _ hc, hI.1 c hc]
    · by_cases q : j = a
      · subst q
        rw [sD_eq]
      · rw [sD_nj _ _ _ q, hI.2 j (by omega)]
    · rw [s_Arrays_fill_7_5]
      unfold b_Arrays_fill_7_5
      rw [if_neg (nI_ge ha (by decide)), rk_in ha (by decide), nI_clamp (by omega), nI_add]
  · refine ⟨s, ?_, hI⟩
    rw [s_Arrays_fill_7_5]
    unfold b_Arrays_fill_7_5
    rw [if_pos (nI_le (Nat.le_refl _) (by decide))]
theorem fill_8 (hF : 100 ≤ F) (v : Int32) (D : mx_D) : ∃ D', g_Arrays_fill_8 F v D = some D' ∧ (∀ c, c ≠ 8 → D' c = D c) ∧ ∀ j, j < 20 → D' 8 j = v := by
  unfold g_Arrays_fill_8
  refine lp0 (F := F) (fun a (s : mx_D) => (∀ c, c ≠ 8 → s c = D c) ∧ ∀ j, j < a → s 8 j = v) (fun D' => (∀ c, c ≠ 8 → D' c = D c) ∧ ∀ j, j < 20 → D' 8 j = v) (fun f a s => g_Arrays_fill_8_5 F f v (nI a) (nI 20) s) (n := 20) (by omega) ⟨fun _ _ => rfl, fun x hx => absurd hx (Nat.not_lt_zero x)⟩ (fun f a s ha hI => ?_) (fun f s hI => ?_)
  · refine ⟨sD s 8 a v, ⟨fun c hc => ?_, fun j hj => ?_⟩, ?_⟩
    · rw [sD_nr _ _ _ hc, hI.1 c hc]
    · by_cases q : j = a
      · subst q
        rw [sD_eq]
      · rw [sD_nj _ _ _ q, hI.2 j (by omega)]
    · rw [s_Arrays_fill_8_5]
      unfold b_Arrays_fill_8_5
      rw [if_neg (nI_ge ha (by decide)), rk_in ha (by decide), nI_clamp (by omega), nI_add]
  · refine ⟨s, ?_, hI⟩
    rw [s_Arrays_fill_8_5]
    unfold b_Arrays_fill_8_5
    rw [if_pos (nI_le (Nat.le_refl _) (by decide))]
theorem fill_18 (hF : 100 ≤ F) (v : Int32) (D : mx_D) : ∃ D', g_Arrays_fill_18 F v D = some D' ∧ (∀ c, c ≠ 18 → D' c = D c) ∧ ∀ j, j < 5 → D' 18 j = v := by
  unfold g_Arrays_fill_18
  refine lp0 (F := F) (fun a (s : mx_D) => (∀ c, c ≠ 18 → s c = D c) ∧ ∀ j, j < a → s 18 j = v) (fun D' => (∀ c, c ≠ 18 → D' c = D c) ∧ ∀ j, j < 5 → D' 18 j = v) (fun f a s => g_Arrays_fill_18_5 F f v (nI a) (nI 5) s) (n := 5) (by omega) ⟨fun _ _ => rfl, fun x hx => absurd hx (Nat.not_lt_zero x)⟩ (fun f a s ha hI => ?_) (fun f s hI => ?_)
  · refine ⟨sD s 18 a v, ⟨fun c hc => ?_, fun j hj => ?_⟩, ?_⟩
    · rw [sD_nr _ _ _ hc, hI.1 c hc]
    · by_cases q : j = a
      · subst q
        rw [sD_eq]
      · rw [sD_nj _ _ _ q, hI.2 j (by omega)]
    · rw [s_Arrays_fill_18_5]
      unfold b_Arrays_fill_18_5
      rw [if_neg (nI_ge ha (by decide)), rk_in ha (by decide), nI_clamp (by omega), nI_add]
  · refine ⟨s, ?_, hI⟩
    rw [s_Arrays_fill_18_5]
    unfold b_Arrays_fill_18_5
    rw [if_pos (nI_le (Nat.le_refl _) (by decide))]
/-- both loops over the lines -/
theorem loop_LN (hF : 2000 ≤ F) {t : Nat} : ∀ k n f f' (D D' : mx_D), n + k = t → k < f → k < f' → S2 D D' t → D' 116 12 = 0 → DT D (D' 122) → D' 122 7 = nI n → ((n = 0 ∧ ∀ i, i < 106 → D' 122 i = nI 0) ∨ (0 < n ∧ 0 < nP (D' 122))) → (n : Int) ≤ (D 3 6).toInt → ∃ ok D1 D1', g_Reader_readTape_28 F f (nI n) D = some (b01 ok, D1) ∧ g_M_church_53 F f' D' = (if b01 ok = 0 then some (-4, D1') else g_M_church_86 F F (nI 0) D1') ∧ LN D D' D1 D1' t ∧ (ok = true → DT D1 (D1' 122)) := by
  have stop : ∀ (n f f' : Nat) (D D' : mx_D), 0 < f → 0 < f' → S2 D D' t → D' 116 12 = 0 → DT D (D' 122) → (D 3 5 = nI 0 ∧ D' 116 10 = nI 0) → ∃ ok D1 D1', g_Reader_readTape_28 F f (nI n) D = some (b01 ok, D1) ∧ g_M_church_53 F f' D' = (if b01 ok = 0 then some (-4, D1') else g_M_church_86 F F (nI 0) D1') ∧ LN D D' D1 D1' t ∧ (ok = true → DT D1 (D1' 122)) := fun n f f' D D' hf hf' hS g hD hk => by
    obtain ⟨f, rfl⟩ : ∃ g, f = g + 1 := ⟨f - 1, by omega⟩
    obtain ⟨f', rfl⟩ : ∃ g, f' = g + 1 := ⟨f' - 1, by omega⟩
    refine ⟨true, D, D', ?_, ?_, LN_r hS, fun _ => hD⟩
    · rw [s_Reader_readTape_28]
      unfold b_Reader_readTape_28
      rw [hk.1, hS.1.1.trans g, if_pos z0, if_pos rfl]
      split <;> rfl
    · rw [s_M_church_53]
      unfold b_M_church_53
      rw [good_1 g, hk.2, if1, if1n, if_pos z0, if1n]
  intro k
  induction k with
  | zero =>
    intro n f f' D D' hn hf hf' hS g hD h7 hi hm
    obtain ⟨p, q, k, z1, z2, z3, z4, z5, z6, z7, z8, z9⟩ := hS.2
    have hk : k = 0 := by
      rw [z8, nI_toInt (by omega)] at hm
      exact z5 (by omega)
    subst hk
    obtain ⟨h1, h2, h3, h4, h5, p', q', k', a1, a2, a3, a4, a5, a6, a7⟩ := hS.1.2.2.2 g
    exact stop n f f' D D' (by omega) (by omega) hS g hD ⟨z9, by rw [a6.2, ← a6.1]; exact z9⟩
  | succ k ih =>
    intro n f f' D D' hn hf hf' hS g hD h7 hi hm
    obtain ⟨p, q, kk, z1, z2, z3, z4, z5, z6, z7, z8, z9⟩ := hS.2
    obtain ⟨h1, h2, h3, h4, h5, p', q', k', a1, a2, a3, a4, a5, a6, a7⟩ := hS.1.2.2.2 g
    by_cases c : D 3 5 = nI 0
    · exact stop n f f' D D' (by omega) (by omega) hS g hD ⟨c, by rw [a6.2, ← a6.1]; exact c⟩
    · have c' : ¬ D' 116 10 = 0 := by
        intro e
        refine c ?_
        rw [a6.1, ← a6.2]
        exact e
      have lo : LO F D D' t n := by
        rcases hi with ⟨rfl, hi⟩ | ⟨hi, hi2⟩
        · exact first_LO hF hS g hD hi
        · exact later_LO hF hS g hD h7 hi (by omega) hi2
      obtain ⟨D1, D1', l1, l2, l3, l4⟩ := lo
      obtain ⟨f, rfl⟩ : ∃ g, f = g + 1 := ⟨f - 1, by omega⟩
      obtain ⟨f', rfl⟩ : ∃ g, f' = g + 1 := ⟨f' - 1, by omega⟩
      have e1 : g_Reader_readTape_28 F (f + 1) (nI n) D = g_Reader_readTape_28 F f (nI (n + 1)) (sD D1 4 4 (D1 4 4 + nI 1)) := by
        rw [s_Reader_readTape_28]
        unfold b_Reader_readTape_28
        rw [h2, if_neg (nI_ge (by omega) (by omega)), if_neg (show ¬ D 3 5 = 0 from c), if_pos (hS.1.1.trans g), l1, ob_some, nI_add]
      have e2 : g_M_church_53 F (f' + 1) D' = g_M_church_53 F f' D1' := by
        rw [s_M_church_53]
        unfold b_M_church_53
        rw [good_1 g, if1n, if_neg c', l2, ob_some]
      rw [e1, e2]
      by_cases g1 : D1' 116 12 = 0
      · obtain ⟨m1, m2, m3, m4⟩ := l4 g1
        obtain ⟨ok, K, K', r1, r2, r3, r4⟩ := ih (n + 1) f f' _ D1' (by omega) (by omega) (by omega) l3.1 g1 m1 m3 (Or.inr ⟨by omega, m2⟩) (by omega)
        exact ⟨ok, K, K', r1, r2, LN_t l3 r3, r4⟩
      · have gx : ¬ sD D1 4 4 (D1 4 4 + nI 1) 3 1 = 0 := by rw [l3.1.1.1]; exact g1
        obtain ⟨f, rfl⟩ : ∃ g, f = g + 1 := ⟨f - 1, by omega⟩
        obtain ⟨f', rfl⟩ : ∃ g, f' = g + 1 := ⟨f' - 1, by omega⟩
        refine ⟨false, _, D1', ?_, ?_, l3, fun e => absurd e (by decide)⟩
        · rw [s_Reader_readTape_28]
          unfold b_Reader_readTape_28
          rw [if_neg gx, if_neg gx]
          split
          · rfl
          · split <;> rfl
        · rw [s_M_church_53]
          unfold b_M_church_53
          rw [good_0 g1, if_pos z0, if_pos z0, if0]
/-- the draft is cleared -/
theorem clear_s (hF : 100 ≤ F) (D : mx_D) : ∃ C, g_Church_clear_4 F D = some C ∧ (∀ c, c < 4 ∨ 18 < c → C c = D c) ∧ (C 4 0 = nI 0 ∧ C 4 1 = nI 0 ∧ C 4 2 = nI 0 ∧ C 4 3 = nI 0 ∧ C 4 4 = nI 0 ∧ C 4 10 = nI 0 ∧ C 4 12 = nI 0 ∧ C 9 6 = nI 0) ∧ (∀ j, j < 4 → C 5 j = nI 0 ∧ C 6 j = nI 0 ∧ C 7 j = nI 0) ∧ (∀ j, j < 20 → C 8 j = nI 0) ∧ (∀ j, j < 5 → C 18 j = -1) := by
  unfold g_Church_clear_4
  obtain ⟨A, a1, a2, a3⟩ := fill_5 hF (nI 0) (sD (sD (sD (sD (sD D 4 0 (nI 0)) 4 1 (nI 0)) 4 2 (nI 0)) 4 3 (nI 0)) 4 4 (nI 0))
  obtain ⟨B, b1, b2, b3⟩ := fill_6 hF (nI 0) A
  obtain ⟨C, c1, c2, c3⟩ := fill_7 hF (nI 0) B
  obtain ⟨G, d1, d2, d3⟩ := fill_8 hF (nI 0) C
  obtain ⟨H, e1, e2, e3⟩ := fill_18 hF (-1) (sD (sD (sD G 9 6 (nI 0)) 4 10 (nI 0)) 4 12 (nI 0))
  rw [a1, ob_some, b1, ob_some, c1, ob_some, d1, ob_some, e1, ob_some]
  refine ⟨H, rfl, fun c hc => ?_, ⟨?_, ?_, ?_, ?_, ?_, ?_, ?_, ?_⟩, fun j hj => ⟨?_, ?_, ?_⟩, fun j hj => ?_, e3⟩
  · rw [e2 c (by omega), sD_nr _ _ _ (by omega), sD_nr _ _ _ (by omega), sD_nr _ _ _ (by omega), d2 c (by omega), c2 c (by omega), b2 c (by omega), a2 c (by omega), sD_nr _ _ _ (by omega), sD_nr _ _ _ (by omega), sD_nr _ _ _ (by omega), sD_nr _ _ _ (by omega), sD_nr _ _ _ (by omega)]
  · rw [e2 4 (by decide), sD_nj _ _ _ (by decide), sD_nj _ _ _ (by decide), sD_ne _ _ _ _ (by decide), d2 4 (by decide), c2 4 (by decide), b2 4 (by decide), a2 4 (by decide), sD_nj _ _ _ (by decide), sD_nj _ _ _ (by decide), sD_nj _ _ _ (by decide), sD_nj _ _ _ (by decide), sD_eq]
  · rw [e2 4 (by decide), sD_nj _ _ _ (by decide), sD_nj _ _ _ (by decide), sD_ne _ _ _ _ (by decide), d2 4 (by decide), c2 4 (by decide), b2 4 (by decide), a2 4 (by decide), sD_nj _ _ _ (by decide), sD_nj _ _ _ (by decide), sD_nj _ _ _ (by decide), sD_eq]
  · rw [e2 4 (by decide), sD_nj _ _ _ (by decide), sD_nj _ _ _ (by decide), sD_ne _ _ _ _ (by decide), d2 4 (by decide), c2 4 (by decide), b2 4 (by decide), a2 4 (by decide), sD_nj _ _ _ (by decide), sD_nj _ _ _ (by decide), sD_eq]
  · rw [e2 4 (by decide), sD_nj _ _ _ (by decide), sD_nj _ _ _ (by decide), sD_ne _ _ _ _ (by decide), d2 4 (by decide), c2 4 (by decide), b2 4 (by decide), a2 4 (by decide), sD_nj _ _ _ (by decide), sD_eq]
  · rw [e2 4 (by decide), sD_nj _ _ _ (by decide), sD_nj _ _ _ (by decide), sD_ne _ _ _ _ (by decide), d2 4 (by decide), c2 4 (by decide), b2 4 (by decide), a2 4 (by decide), sD_eq]
  · rw [e2 4 (by decide), sD_nj _ _ _ (by decide), sD_eq]
  · rw [e2 4 (by decide), sD_eq]
  · rw [e2 9 (by decide), sD_ne _ _ _ _ (by decide), sD_ne _ _ _ _ (by decide), sD_eq]
  · rw [e2 5 (by decide), sD_ne _ _ _ _ (by decide), sD_ne _ _ _ _ (by decide), sD_ne _ _ _ _ (by decide), d2 5 (by decide), c2 5 (by decide), b2 5 (by decide), a3 j hj]
  · rw [e2 6 (by decide), sD_ne _ _ _ _ (by decide), sD_ne _ _ _ _ (by decide), sD_ne _ _ _ _ (by decide), d2 6 (by decide), c2 6 (by decide), b3 j hj]
  · rw [e2 7 (by decide), sD_ne _ _ _ _ (by decide), sD_ne _ _ _ _ (by decide), sD_ne _ _ _ _ (by decide), d2 7 (by decide), c3 j hj]
  · rw [e2 8 (by decide), sD_ne _ _ _ _ (by decide), sD_ne _ _ _ _ (by decide), sD_ne _ _ _ _ (by decide), d3 j hj]
/-- no church yet -/
theorem DT_zero (h : (D 4 0 = nI 0 ∧ D 4 1 = nI 0 ∧ D 4 2 = nI 0 ∧ D 4 3 = nI 0 ∧ D 4 4 = nI 0 ∧ D 4 10 = nI 0 ∧ D 4 12 = nI 0 ∧ D 9 6 = nI 0) ∧ (∀ j, j < 4 → D 5 j = nI 0 ∧ D 6 j = nI 0 ∧ D 7 j = nI 0) ∧ (∀ j, j < 20 → D 8 j = nI 0) ∧ (∀ j, j < 5 → D 18 j = -1)) (hz : ∀ i, i < 106 → w i = nI 0) : DT D w := by
  obtain ⟨⟨c0, c1, c2, c3, c4, c10, c12, c9⟩, d2, d3, d4⟩ := h
  have nA0 : nA w = 0 := by unfold nA; rw [hz 4 (by decide)]; rfl
  have nH0 : nH w = 0 := by unfold nH; rw [hz 5 (by decide)]; rfl
  have nB0 : nB w = 0 := by unfold nB; rw [hz 6 (by decide)]; rfl
  have nP0 : nP w = 0 := by unfold nP; rw [hz 0 (by decide)]; rfl
  have nL0 : nL w = 0 := by unfold nL; rw [hz 1 (by decide)]; rfl
  have nV0 : nV w = 0 := by unfold nV; rw [hz 2 (by decide)]; rfl
  have nN0 : nN w = 0 := by unfold nN; rw [hz 7 (by decide)]; rfl
  have t0 : ∀ i, i < 106 → ti w i = 0 := fun i q => by unfold ti; rw [hz i q]; rfl
  have no : ∀ {P : Prop} {y : Nat}, y < 0 → P := fun z => absurd z (Nat.not_lt_zero _)
  refine ⟨⟨⟨?_, ?_, ?_, ?_, ?_, ?_, ?_, ?_⟩, fun j hj => ?_, fun j hj => ?_, fun y hy => ?_, fun y hy => ?_, fun y hy => ?_⟩, ⟨?_, ?_, ?_, ?_, ?_, ?_, ?_, ?_, ?_, ?_, ?_, ?_, ?_, ?_, ?_, ?_, ?_⟩, ⟨fun y z hy => ?_, fun y z hy => ?_⟩, fun y q1 q2 => d4 y q2, fun j hj => hz _ (by omega)⟩
  · rw [hz 0 (by decide)]; exact c0
  · rw [hz 1 (by decide)]; exact c1
  · rw [hz 2 (by decide)]; exact c2
  · rw [hz 3 (by decide)]; exact c3
  · rw [hz 7 (by decide)]; exact c4
  · rw [hz 5 (by decide)]; exact c10
  · rw [hz 6 (by decide)]; exact c12
  · rw [hz 4 (by decide)]; exact c9
  · rw [hz _ (by omega), hz _ (by omega), hz _ (by omega)]; exact d2 j hj
  · rw [hz _ (by omega)]; exact d3 j hj
  · rw [nA0] at hy; exact no hy
  · rw [nH0] at hy; exact no hy
  · rw [nB0] at hy; exact no hy
  · rw [nP0]; exact ⟨hz 0 (by decide), by decide⟩
  · rw [nL0]; exact ⟨hz 1 (by decide), by decide⟩
  · rw [nV0]; exact ⟨hz 2 (by decide), by decide⟩
  · exact Or.inl (hz 3 (by decide))
  · rw [nA0]; exact ⟨hz 4 (by decide), by decide⟩
  · rw [nH0]; exact ⟨hz 5 (by decide), by decide⟩
  · rw [nB0]; exact ⟨hz 6 (by decide), by decide⟩
  · rw [nN0]; exact ⟨hz 7 (by decide), by decide⟩
  · rw [nP0, nN0, nL0, nA0, nH0, nB0]
    exact ⟨Iff.rfl, Iff.rfl, id, id, id⟩
  · intro j hj
    rw [t0 _ (by omega), t0 _ (by omega), t0 _ (by omega)]
    decide
  · intro j hj
    rw [t0 _ (by omega)]
    decide
  · intro y hy
    rw [nA0] at hy; exact no hy
  · intro y hy
    rw [nA0] at hy; exact no hy
  · intro y hy
    rw [nA0] at hy; exact no hy
  · intro y hy
    rw [nH0] at hy; exact no hy
  · intro y hy
    rw [nB0] at hy; exact no hy
  · intro y hy
    rw [nB0] at hy; exact no hy
  · rw [nA0] at hy; exact no hy
  · rw [nA0] at hy; exact no hy
/-- both readers, the whole tape -/
theorem chu (hF : 2000 ≤ F) {t : Nat} (ht : t ≤ 1400) (h1 : D 1 1 = nI t) (h5 : D' 116 5 = nI t) (hT : ∀ j, j < t → D 2 j = D' 120 j) (hB : BY (D' 120) t) : ∃ ok C C', g_Reader_readTape F D = some (b01 ok, C) ∧ g_M_church F D' = (if b01 ok = 0 then some (-4, C') else g_M_church_86 F F (nI 0) C') ∧ (C 3 1 = C' 116 12 ∧ C 3 2 = C' 116 13) ∧ (∀ c, c < 3 ∨ 18 < c → C c = D c) ∧ (∀ c, c ≠ 116 → c ≠ 122 → C' c = D' c) ∧ C' 116 5 = nI 0 ∧ (ok = true → DT C (C' 122)) := by
  obtain ⟨A, a1, a2, a3⟩ := clear_s (F := F) (by omega) D
  -- the reference's fresh numbers
  have key : ∀ k f a (s : mx_D), a + k = 106 → k < f → (∀ i, i < a → s 122 i = nI 0) → ∃ s', g_M_church_30 F f (nI a) s = Option.bind (g_M_advance F s') (fun r1 => g_M_church_53 F F r1) ∧ (∀ c, c ≠ 122 → s' c = s c) ∧ ∀ i, i < 106 → s' 122 i = nI 0 := by
    intro k
    induction k with
    | zero =>
      intro f a s h hf hz
      obtain ⟨f, rfl⟩ : ∃ g, f = g + 1 := ⟨f - 1, by omega⟩
      obtain rfl : a = 106 := by omega
      refine ⟨s, ?_, fun _ _ => rfl, hz⟩
      rw [s_M_church_30]
      unfold b_M_church_30
      rw [if_pos (by decide)]
    | succ k ih =>
      intro f a s h hf hz
      obtain ⟨f, rfl⟩ : ∃ g, f = g + 1 := ⟨f - 1, by omega⟩
      obtain ⟨s', q1, q2, q3⟩ := ih f (a + 1) (sD s 122 a (nI 0)) (by omega) (by omega) (fun i hi => by
        by_cases c : i = a
        · subst c
          exact sD_eq _ _ _ _
        · rw [sD_nj _ _ _ c]
          exact hz i (by omega))
      refine ⟨s', ?_, fun c hc => by rw [q2 c hc, sD_nr _ _ _ hc], q3⟩
      rw [s_M_church_30]
      unfold b_M_church_30
      rw [if_neg (nI_ge (by omega) (by decide)), rk_in (by omega) (by decide), nI_clamp (by omega), nI_add]
      exact q1
  obtain ⟨B, b1, b2, b3⟩ := key 106 F 0 (sD (sD (sD (sD (sD D' 116 7 (D' 116 5)) 116 5 (nI 0)) 116 8 (nI 0)) 116 12 (nI 0)) 116 13 (-1)) (by omega) (by omega) (fun i hi => absurd hi (Nat.not_lt_zero i))
  have B116 := b2 116 (by decide)
  have B7 : B 116 7 = nI t := by rw [B116, sD_nj _ _ _ (by decide), sD_nj _ _ _ (by decide), sD_nj _ _ _ (by decide), sD_nj _ _ _ (by decide), sD_eq, h5]
  have B5 : B 116 5 = nI 0 := by rw [B116, sD_nj _ _ _ (by decide), sD_nj _ _ _ (by decide), sD_nj _ _ _ (by decide), sD_eq]
  have B8 : B 116 8 = nI 0 := by rw [B116, sD_nj _ _ _ (by decide), sD_nj _ _ _ (by decide), sD_eq]
  have B12 : B 116 12 = nI 0 := by rw [B116, sD_nj _ _ _ (by decide), sD_eq]
  have B13 : B 116 13 = -1 := by rw [B116, sD_eq]
  have Bo : ∀ c, c ≠ 116 → c ≠ 122 → B c = D' c := fun c q1 q2 => by rw [b2 c q2, sD_nr _ _ _ q1, sD_nr _ _ _ q1, sD_nr _ _ _ q1, sD_nr _ _ _ q1, sD_nr _ _ _ q1]
  have B120 := Bo 120 (by decide) (by decide)
  -- the class's first token
  have g1 : sD (sD (sD A 3 1 (nI 0)) 3 2 (-1)) 3 4 (nI 0) 1 1 = nI t := by rw [sD_ne _ _ _ _ (by decide), sD_ne _ _ _ _ (by decide), sD_ne _ _ _ _ (by decide), a2 1 (by omega), h1]
  have g2 : sD (sD (sD A 3 1 (nI 0)) 3 2 (-1)) 3 4 (nI 0) 2 = D 2 := by rw [sD_nr _ _ _ (by decide), sD_nr _ _ _ (by decide), sD_nr _ _ _ (by decide), a2 2 (by omega)]
  have g4 : sD (sD (sD A 3 1 (nI 0)) 3 2 (-1)) 3 4 (nI 0) 3 4 = nI 0 := sD_eq _ _ _ _
  have gf : sD (sD (sD A 3 1 (nI 0)) 3 2 (-1)) 3 4 (nI 0) 3 1 = nI 0 := by rw [sD_nj _ _ _ (by decide), sD_nj _ _ _ (by decide), sD_eq]
  have gp : sD (sD (sD A 3 1 (nI 0)) 3 2 (-1)) 3 4 (nI 0) 3 2 = -1 := by rw [sD_nj _ _ _ (by decide), sD_eq]
  have go : ∀ c, c ≠ 3 → sD (sD (sD A 3 1 (nI 0)) 3 2 (-1)) 3 4 (nI 0) c = A c := fun c hc => by rw [sD_nr _ _ _ hc, sD_nr _ _ _ hc, sD_nr _ _ _ hc]
  have ert : g_Reader_readTape F D = Option.bind (g_Reader_advance F (sD (sD (sD A 3 1 (nI 0)) 3 2 (-1)) 3 4 (nI 0))) (fun r2 => g_Reader_readTape_28 F F (nI 0) r2) := by
    unfold g_Reader_readTape
    rw [a1, ob_some]
  have erc : g_M_church F D' = Option.bind (g_M_advance F B) (fun r1 => g_M_church_53 F F r1) := b1
  rw [ert, erc]
  generalize sD (sD (sD A 3 1 (nI 0)) 3 2 (-1)) 3 4 (nI 0) = G at g1 g2 g4 gf gp go ⊢
  obtain ⟨X, x1, x2, x3, x4, x5, x6, x7⟩ := x_adv hF ht g1 g4 (Nat.zero_le t)
  obtain ⟨Y, y1, y2, y3, y4, y5, y6, y7⟩ := m_adv hF ht (show BY (B 120) t by rw [B120]; exact hB) B7 B8 (Nat.zero_le t)
  have eT : ∀ j, j < t → G 2 j = B 120 j := fun j hj => by rw [g2, B120]; exact hT j hj
  have w1 := tw_b (B 120) (t - 0) 0
  have w2 := nx_b (B 120) (show tw (B 120) (t - 0) 0 ≤ t by omega)
  have et := tw_c eT (t - 0) 0 (by omega)
  rw [et, nx_c eT] at x4
  rw [et, kd_c eT] at x5
  rw [et] at x6
  rw [et, kd_c eT, tv_c eT _ _ _ (by omega)] at x7
  have hR : RTK X Y t := by
    refine ⟨ht, by rw [x2 1 (by decide)]; exact g1, by rw [y3 7 (by decide) (by decide) (by decide) (by decide)]; exact B7, fun j hj => by rw [x2 2 (by decide), y2 120 (by decide)]; exact eT j hj, by rw [y2 120 (by decide), B120]; exact hB, _, _, _, w2.1, w2.2, kd_4 _ _ _, ⟨x4, y4⟩, ⟨x6, y6⟩, ⟨x5, y5⟩, fun e => ⟨_, x7 e, y7 e⟩⟩
  have hPG : PG X t := by
    refine ⟨_, _, _, w2.1, w2.2, ht, ?_, fun c => kd_t0 c, kd_4 _ _ _, x4, x6, x5⟩
    by_cases c : tw (B 120) (t - 0) 0 < t
    · exact Or.inr (nx_gt _ c)
    · exact Or.inl (kd_t0 (by omega))
  have f1 : X 3 1 = nI 0 := by rw [x3 1 (by decide) (by decide) (by decide) (by decide)]; exact gf
  have f2 : X 3 2 = -1 := by rw [x3 2 (by decide) (by decide) (by decide) (by decide)]; exact gp
  have f3 : Y 116 12 = nI 0 := by rw [y3 12 (by decide) (by decide) (by decide) (by decide)]; exact B12
  have f4 : Y 116 13 = -1 := by rw [y3 13 (by decide) (by decide) (by decide) (by decide)]; exact B13
  have hS : S2 X Y t := ⟨⟨f1.trans f3.symm, f2.trans f4.symm, RTK_X hR, fun _ => hR⟩, hPG⟩
  have Y122 : ∀ i, i < 106 → Y 122 i = nI 0 := fun i hi => by rw [y2 122 (by decide)]; exact b3 i hi
  have XA : ∀ c, c ≠ 3 → X c = A c := fun c hc => (x2 c hc).trans (go c hc)
  have hD : DT X (Y 122) := DT_zero (by
    rw [XA 4 (by decide), XA 9 (by decide), XA 5 (by decide), XA 6 (by decide), XA 7 (by decide), XA 8 (by decide), XA 18 (by decide)]
    exact a3) Y122
  obtain ⟨ok, K, K', r1, r2, r3, r4⟩ := loop_LN hF (t := t) t 0 F F X Y (by omega) (by omega) (by omega) hS f3 hD (Y122 7 (by decide)) (Or.inl ⟨rfl, Y122⟩) (by
    rw [x6, nI_toInt (by omega)]
    omega)
  rw [x1, ob_some, y1, ob_some]
  refine ⟨ok, K, K', r1, r2, ⟨r3.1.1.1, r3.1.1.2.1⟩, fun c hc => ?_, fun c q1 q2 => ?_, ?_, r4⟩
  · rw [r3.2.1.1 c hc, XA c (by omega), a2 c (by omega)]
  · rw [r3.2.2.1 c q1 q2, y2 c q1, Bo c q1 q2]
  · rw [r3.2.2.2.1 5 (by omega), y3 5 (by decide) (by decide) (by decide) (by decide), B5]
/-- church's end on the reference's side: the fresh numbers are the church -/
theorem M_copy (hF : 2000 ≤ F) (D : mx_D) : ∃ D1, g_M_church_86 F F (nI 0) D = some (D 122 7, D1) ∧ (∀ c, c ≠ 117 → D1 c = D c) ∧ EQ (D 122) (D1 117) := by
  have key := lp0 (F := F) (s := D) (fun a (s : mx_D) => (∀ c, c ≠ 117 → s c = D c) ∧ ∀ i, i < a → s 117 i = D 122 i) (fun (r : Int32 × mx_D) => r.1 = D 122 7 ∧ (∀ c, c ≠ 117 → r.2 c = D c) ∧ ∀ i, i < 106 → r.2 117 i = D 122 i) (fun f a s => g_M_church_86 F f (nI a) s) (n := 106) (by omega) ⟨fun _ _ => rfl, fun i hi => absurd hi (Nat.not_lt_zero i)⟩ (fun f a s ha hI => ?_) (fun f s hI => ?_)
  · obtain ⟨⟨r, D1⟩, k1, k2, k3, k4⟩ := key
    exact ⟨D1, by rw [← k2]; exact k1, k3, k4⟩
  · refine ⟨sD s 117 a (D 122 a), ⟨fun c hc => ?_, fun i hi => ?_⟩, ?_⟩
    · rw [sD_nr _ _ _ hc, hI.1 c hc]
    · by_cases c : i = a
      · subst c
        rw [sD_eq]
      · rw [sD_nj _ _ _ c, hI.2 i (by omega)]
    · show g_M_church_86 F (f + 1) _ _ = _
      rw [s_M_church_86]
      unfold b_M_church_86
      rw [if_neg (nI_ge ha (by decide)), rk_in ha (by decide), rk_in ha (by decide), nI_clamp (by omega), hI.1 122 (by decide), nI_add]
  · refine ⟨(D 122 7, s), ?_, rfl, hI⟩
    show g_M_church_86 F (f + 1) _ _ = _
    rw [s_M_church_86]
    unfold b_M_church_86
    rw [if_pos (by decide), hI.2 7 (by decide)]
/-- a tie in which the church, the tape, the readers are others -/
theorem RL_ch {D2 : mx_D} (h : RL D E) (hW : WF (D2 117)) (hU : UQ (D2 117)) (hC : CC D2 (D2 117)) (t1 : D2 1 1 = nI 0 ∧ D2 116 5 = nI 0) (t2 : D2 3 1 = D2 116 12 ∧ D2 3 2 = D2 116 13) (f : ∀ c, 34 ≤ c → c ≠ 116 → c ≠ 117 → c ≠ 122 → D2 c = D c) : RL D2 E := by
  obtain ⟨h1, h2, h3, h4, h5, h6, h7⟩ := h
  have ei : ∀ k, img D2 k = img D k := fun k => by
    unfold img
    rw [f 118 (by decide) (by decide) (by decide) (by decide)]
  refine ⟨hW, hU, hC, ⟨0, by decide, t1.1, t1.2, fun j hj => absurd hj (Nat.not_lt_zero j)⟩, t2, fun k hk => ?_, fun s hs => ?_⟩
  · have q := h6 k hk
    unfold IM at q ⊢
    rw [f 61 (by decide) (by decide) (by decide) (by decide), f 119 (by decide) (by decide) (by decide) (by decide), ei]
    exact ⟨q.1, q.2.imp id (fun z => ⟨z.1, CH_of z.2.1 (fun k q1 q2 => f k (by omega) (by omega) (by omega) (by omega)), z.2.2⟩)⟩
  · have q := h7 s hs
    unfold SL at q ⊢
    rw [f (108 + 2 * s) (by omega) (by omega) (by omega) (by omega), f 137 (by decide) (by decide) (by decide) (by decide), f 138 (by decide) (by decide) (by decide) (by decide)]
    exact q
theorem op_church (hF : 2000 ≤ F) (h : RL D E) : ∃ r D1 D2, g_X_church F D = some (r, D1) ∧ g_M_church F D1 = some (r, D2) ∧ RL D2 E := by
  obtain ⟨t, ht, t1, t2, t3⟩ := h.2.2.2.1
  have hB : BY (D 120) t := fun j hj => by
    obtain ⟨q1, q2⟩ := t3 j hj
    rw [← q1]
    exact q2
  obtain ⟨ok, C, C', c1, c2, c3, c4, c5, c6, c7⟩ := chu hF ht t1 t2 (fun j hj => (t3 j hj).1) hB
  -- where the class stands in the end
  have cls : ∃ r D1, g_X_church F D = some (r, D1) ∧ (ok = false → r = -4 ∧ D1 = sD C 1 1 (nI 0)) ∧ (ok = true → r = D1 19 4 ∧ (∀ c, c < 19 ∨ 34 ≤ c → D1 c = sD C 1 1 (nI 0) c) ∧ SAME (sD C 1 1 (nI 0)) D1 19 4) := by
    unfold g_X_church
    rw [c1, ob_some]
    dsimp only
    cases ok
    · rw [if0]
      exact ⟨_, _, rfl, fun _ => ⟨rfl, rfl⟩, fun e => absurd e (by decide)⟩
    · rw [if1]
      have hd := c7 rfl
      obtain ⟨K, k1, k2, k3⟩ := cp_Church_copyOf_4 (sD C 1 1 (nI 0)) (by
        rw [sD_ne _ _ _ _ (by decide), hd.1.1.2.2.2.1]
        exact wf_3 hd.2.1)
      rw [k1, ob_some]
      exact ⟨_, K, rfl, fun e => absurd e (by decide), fun _ => ⟨rfl, fun c hc => k2 c (by omega), k3⟩⟩
  obtain ⟨r, D1, e1, e2, e3⟩ := cls
  have fD : ∀ c, 34 ≤ c → D1 c = D c := fun c hc => by
    cases ok
    · rw [(e2 rfl).2, sD_nr _ _ _ (by omega), c4 c (by omega)]
    · rw [(e3 rfl).2.1 c (by omega), sD_nr _ _ _ (by omega), c4 c (by omega)]
  have f116 := fD 116 (by decide)
  have f120 := fD 120 (by decide)
  obtain ⟨ok2, Z, Z', z1, z2, z3, z4, z5, z6, z7⟩ := chu (D' := D1) hF ht t1 (by rw [f116]; exact t2) (fun j hj => by rw [f120]; exact (t3 j hj).1) (by rw [f120]; exact hB)
  rw [c1] at z1
  obtain ⟨eb, rfl⟩ := Prod.mk.inj (Option.some.inj z1)
  have eo : ok = ok2 := by
    cases ok <;> cases ok2
    · rfl
    · exact absurd eb (by decide)
    · exact absurd eb (by decide)
    · rfl
  subst eo
  cases ok
  · obtain ⟨rfl, rfl⟩ := e2 rfl
    rw [if0] at z2
    refine ⟨-4, _, Z', e1, z2, ?_⟩
    have e117 : Z' 117 = D 117 := by rw [z5 117 (by decide) (by decide), fD 117 (by decide)]
    have low : ∀ c, c ≠ 1 → c < 34 → Z' c = C c := fun c q1 q2 => by rw [z5 c (by omega) (by omega), sD_nr _ _ _ q1]
    refine RL_ch h (by rw [e117]; exact h.1) (by rw [e117]; exact h.2.1) ?_ ⟨?_, z6⟩ ⟨?_, ?_⟩ (fun c q1 q2 q3 q4 => by rw [z5 c q2 q4, fD c q1])
    · rw [e117]
      exact CH_of h.2.2.1 (fun c q1 q2 => by rw [low c (by omega) (by omega), c4 c (by omega)])
    · rw [z5 1 (by decide) (by decide), sD_eq]
    · rw [low 3 (by decide) (by decide)]
      exact z3.1
    · rw [low 3 (by decide) (by decide)]
      exact z3.2
  · obtain ⟨rfl, e4, e5⟩ := e3 rfl
    rw [if1] at z2
    obtain ⟨Q, q1, q2, q3⟩ := M_copy hF Z'
    have hd := z7 rfl
    have hS := CH_same hd.2.1 (CH_of hd.1 (fun k q1 q2 => sD_nr C 1 (nI 0) (by omega))) e5
    have er : D1 19 4 = Z' 122 7 := hS.1.2.2.2.2.1
    refine ⟨_, D1, Q, e1, by rw [z2, q1, er], ?_⟩
    have low : ∀ c, c < 34 → Q c = D1 c := fun c hc => by rw [q2 c (by omega), z5 c (by omega) (by omega)]
    refine RL_ch h (WF_ext hd.2.1 q3) (UQ_ext hd.2.1 hd.2.2.1 q3) ?_ ⟨?_, ?_⟩ ⟨?_, ?_⟩ (fun c p1 p2 p3 p4 => by rw [q2 c p3, z5 c p2 p4, fD c p1])
    · exact CH_ext hd.2.1 (CH_of hS (fun c p1 p2 => low c (by omega))) q3
    · rw [low 1 (by decide), e4 1 (by decide), sD_eq]
    · rw [q2 116 (by decide)]
      exact z6
    · rw [low 3 (by decide), e4 3 (by decide), sD_nr _ _ _ (by decide), q2 116 (by decide)]
      exact z3.1
    · rw [low 3 (by decide), e4 3 (by decide), sD_nr _ _ _ (by decide), q2 116 (by decide)]
      exact z3.2
end CP
