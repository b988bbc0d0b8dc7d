/-! ===== years, humps ===== -/
section HM
variable {D : mx_D} {E : mx_E} {w : W_} {F : Nat}
theorem ff_up {p : Nat → Bool} {y : Nat} (hy : y ≤ 30) : (ff p (y + 1) 0 = -1) ↔ (ff p 31 0 = -1 ∨ ∃ j, ff p 31 0 = nI j ∧ y < j ∧ j < 31) := by
  rcases ff_sp p (y + 1) 0 with ⟨h1, h2⟩ | ⟨j, h1, h2, h3, h4, h5⟩
  · refine ⟨fun _ => ?_, fun _ => h1⟩
    rcases ff_sp p 31 0 with ⟨q1, q2⟩ | ⟨i, q1, q2, q3, q4, q5⟩
    · exact Or.inl q1
    · refine Or.inr ⟨i, q5, ?_, by omega⟩
      rcases Nat.lt_or_ge y i with h | h
      · exact h
      · rw [h2 i (by omega) (by omega)] at q3
        cases q3
  · refine ⟨fun h => ?_, fun h => ?_⟩
    · rw [h5] at h
      exact absurd h (nI_m1 (by omega))
    · exfalso
      rcases ff_sp p 31 0 with ⟨q1, q2⟩ | ⟨i, q1, q2, q3, q4, q5⟩
      · rw [q2 j (by omega) (by omega)] at h3
        cases h3
      · rcases h with h | ⟨k, hk, h6, h7⟩
        · rw [q5] at h
          exact nI_m1 (by omega) h
        · rw [q5] at hk
          have := (nI_eq (by omega) (by omega)).mp hk
          rw [q4 j (by omega) (by omega)] at h3
          cases h3
def yrs (w : W_) (s y : Nat) : Nat → Nat := fo (fun i t => t + (if ff (fun z => !lvd w (s + i) z) (y + 1) 0 = -1 then 1 else 0)) 0
def yrq (w : W_) (a n y : Int32) : Int32 := if (vx a 2000000001 && (decide (1 ≤ n.toInt) && decide (n.toInt ≤ 20))) && (decide (0 < nP w) && vx y 31) then nI (yrs w a.toNatClampNeg y.toNatClampNeg n.toNatClampNeg) else -2
theorem x_years (hF : 1000 ≤ F) (hC : CC D w) (hW : WF w) (a n y : Int32) : ∃ D1, g_X_years F a n y D = some (yrq w a n y, D1) ∧ FX D D1 := by
  unfold g_X_years yrq
  rw [X_canAsk_s hC hW, isSeed_x]
  simp only [b01_if]
  cases hq : decide (0 < nP w) && vx y 31
  · rw [Bool.and_false]
    exact ⟨_, rfl, FX_r D⟩
  · rw [Bool.and_true, if_pos rfl]
    rcases vx_c a 2000000001 (by decide) with h | ⟨s, hs, rfl⟩
    · rw [h, Bool.false_and]
      exact ⟨_, rfl, FX_r D⟩
    · rw [vx_nI (by omega), decide_eq_true hs, Bool.true_and, if_pos rfl]
      simp only [Bool.and_eq_true] at hq
      obtain ⟨k, hk, rfl⟩ := vx_of (by decide) hq.2
      have c1 : n < nI 1 ↔ ¬ 1 ≤ n.toInt := by
        rw [Int32.lt_iff_toInt_lt, nI_toInt (by decide)]
        omega
      have c2 : n ≤ nI 20 ↔ n.toInt ≤ 20 := by
        rw [Int32.le_iff_toInt_le, nI_toInt (by decide)]
        omega
      by_cases q1 : 1 ≤ n.toInt
      · rw [if_neg (fun z => c1.mp z q1), decide_eq_true q1, Bool.true_and]
        by_cases q2 : n.toInt ≤ 20
        · rw [if_pos (c2.mpr q2), decide_eq_true q2, if_pos rfl]
          obtain ⟨m, hm, rfl⟩ := nI_of (x := n) (by rw [Int32.lt_iff_toInt_lt]; have : (0 : Int32).toInt = 0 := by decide
                                                    omega)
          rw [nI_toInt hm] at q1 q2
          rw [nI_clamp (by omega), nI_clamp (by omega), nI_clamp (by omega)]
          have key := lp0 (F := F) (s := D) (fun i (t : mx_D) => FX D t) (fun (r : Int32 × mx_D) => r.1 = nI (yrs w s k m) ∧ FX D r.2) (fun f i t => g_X_years_35 F f (nI s) (nI m) (nI k) (nI (yrs w s k i)) (nI i) t) (n := m) (by omega) (FX_r D) (fun f i t hi hI => ?_) (fun f t hI => ?_)
          · obtain ⟨r, e1, e2, e3⟩ := key
            exact ⟨r.2, by rw [← e2]; exact e1, e3⟩
          · have hc : CC t w := CC_of hC (fun c hc => hI c (by omega))
            obtain ⟨D1, h1, h2⟩ := x_firstDrawn hF hc hW (s := s + i) (by omega) (l := k) (by omega)
            refine ⟨D1, FX_t hI h2, ?_⟩
            show g_X_years_35 F (f + 1) _ _ _ _ _ _ = _
            rw [s_X_years_35]
            unfold b_X_years_35
            have e : yrs w s k (i + 1) = yrs w s k i + (if ff (fun z => !lvd w (s + i) z) (k + 1) 0 = -1 then 1 else 0) := rfl
            rw [if_neg (nI_ge hi (by omega)), nI_l (by omega), nI_l (by omega), lN_add, h1, ob_some, nI_add, nI_add, e]
            by_cases c : ff (fun z => !lvd w (s + i) z) (k + 1) 0 = -1
            · rw [if_pos c, if_pos c]
            · rw [if_neg c, if_neg c]
              rfl
          · refine ⟨(nI (yrs w s k m), t), ?_, rfl, hI⟩
            show g_X_years_35 F (f + 1) _ _ _ _ _ _ = _
            rw [s_X_years_35]
            unfold b_X_years_35
            rw [if_pos (nI_le (Nat.le_refl _) (by omega))]
        · rw [if_neg (fun z => q2 (c2.mp z)), decide_eq_false q2]
          exact ⟨_, rfl, FX_r D⟩
      · rw [if_pos (c1.mpr q1), decide_eq_false q1, Bool.false_and]
        exact ⟨_, rfl, FX_r D⟩
theorem m_years (hF : 1000 ≤ F) (hW : WF (D 117)) (a n y : Int32) : ∃ D1 E1, g_M_years F a n y D E = some (yrq (D 117) a n y, D1, E1) ∧ FM D D1 ∧ FE E E1 := by
  unfold g_M_years yrq
  rw [M_isYear_s hW, M_isSeed_s, M_in_s, lN_toInt (by decide), Int32.toInt_toInt64, show (20 : Int64).toInt = 20 by decide]
  simp only [b01_if]
  show ∃ D1 E1, (if vx a 2000000001 = true then (if (decide (1 ≤ n.toInt) && decide (n.toInt ≤ 20)) = true then _ else _) else _) = _ ∧ _
  rcases vx_c a 2000000001 (by decide) with h | ⟨s, hs, rfl⟩
  · rw [h, Bool.false_and, Bool.false_and]
    exact ⟨_, _, rfl, FM_r D, FE_r E⟩
  · rw [vx_nI (by omega), decide_eq_true hs, Bool.true_and, if_pos rfl]
    cases q1 : decide (1 ≤ n.toInt) && decide (n.toInt ≤ 20)
    · exact ⟨_, _, rfl, FM_r D, FE_r E⟩
    · rw [Bool.true_and, if_pos rfl]
      cases hq : decide (0 < nP (D 117)) && vx y 31
      · exact ⟨_, _, rfl, FM_r D, FE_r E⟩
      · rw [if_pos rfl, if_pos rfl]
        simp only [Bool.and_eq_true, decide_eq_true_eq] at hq q1
        obtain ⟨k, hk, rfl⟩ := vx_of (by decide) hq.2
        obtain ⟨m, hm, rfl⟩ := nI_of (x := n) (by rw [Int32.lt_iff_toInt_lt]; have : (0 : Int32).toInt = 0 := by decide
                                                  omega)
        rw [nI_toInt hm] at q1
        rw [nI_clamp (by omega), nI_clamp (by omega), nI_clamp (by omega)]
        have key := lp0 (F := F) (s := (D, E)) (fun i (t : mx_D × mx_E) => FM D t.1 ∧ FE E t.2) (fun (r : Int32 × mx_D × mx_E) => r.1 = nI (yrs (D 117) s k m) ∧ FM D r.2.1 ∧ FE E r.2.2) (fun f i t => g_M_years_36 F f (nI s) (nI m) (nI k) (nI (yrs (D 117) s k i)) (nI i) t.1 t.2) (n := m) (by omega) ⟨FM_r D, FE_r E⟩ (fun f i t hi hI => ?_) (fun f t hI => ?_)
        · obtain ⟨r, e1, e2, e3, e4⟩ := key
          exact ⟨r.2.1, r.2.2, by rw [← e2]; exact e1, e3, e4⟩
        · have ew := hI.1.2.1.1
          obtain ⟨D1, E1, h1, h2, h3⟩ := m_firstDrawn (D := t.1) (E := t.2) hF (by rw [ew]; exact hW) (s := s + i) (by omega)
          rw [ew] at h1
          refine ⟨(D1, E1), ⟨FM_t hI.1 h2, FE_t hI.2 h3⟩, ?_⟩
          show g_M_years_36 F (f + 1) _ _ _ _ _ _ _ = _
          rw [s_M_years_36]
          unfold b_M_years_36
          have e : yrs (D 117) s k (i + 1) = yrs (D 117) s k i + (if ff (fun z => !lvd (D 117) (s + i) z) (k + 1) 0 = -1 then 1 else 0) := rfl
          rw [if_neg (nI_ge hi (by omega)), nI_l (by omega), nI_l (by omega), lN_add, h1, ob_some, nI_add, nI_add, nI_add, e]
          have hu := ff_up (p := fun z => !lvd (D 117) (s + i) z) (y := k) (by omega)
          by_cases c : ff (fun z => !lvd (D 117) (s + i) z) 31 0 = -1
          · rw [if_pos c, if_pos (hu.mpr (Or.inl c))]
          · rw [if_neg c]
            rcases ff_sp (fun z => !lvd (D 117) (s + i) z) 31 0 with ⟨q1, -⟩ | ⟨j, -, q2, -, -, q5⟩
            · exact absurd q1 c
            · rw [q5]
              by_cases c2 : j ≤ k
              · rw [if_pos (nI_le c2 (by omega)), if_neg]
                intro z
                rcases hu.mp z with z | ⟨j2, z1, z2, z3⟩
                · exact c z
                · rw [q5] at z1
                  have := (nI_eq (by omega) (by omega)).mp z1
                  omega
              · rw [if_neg (nI_ge (by omega) (by omega)), if_pos (hu.mpr (Or.inr ⟨j, q5, by omega, by omega⟩))]
        · refine ⟨(nI (yrs (D 117) s k m), t.1, t.2), ?_, rfl, hI.1, hI.2⟩
          show g_M_years_36 F (f + 1) _ _ _ _ _ _ _ = _
          rw [s_M_years_36]
          unfold b_M_years_36
          rw [if_pos (nI_le (Nat.le_refl _) (by omega))]
/-! humps -/
theorem sat_r (w : W_) (p i : Int32) : sat w p i = -1 ∨ ∃ j, j < nA w ∧ sat w p i = nI j := by
  unfold sat
  rcases ff_sp (fun x => decide (w (40 + 6 * x + 3) = p) && decide (w (40 + 6 * x + 4) = i)) (nA w) 0 with ⟨h, -⟩ | ⟨j, -, h, -, -, h2⟩
  · exact Or.inl h
  · exact Or.inr ⟨j, by omega, h2⟩
def hmp (w : W_) (y p i : Nat) : Bool := decide (0 < i) && (decide (i + 1 < nL w) && (!decide (sat w (nI p) (nI i) = -1) && (!decide (sat w (nI p) (nI (i - 1)) = -1) && (!decide (sat w (nI p) (nI (i + 1)) = -1) && (decide ((nV w : Int) < hi w y (sat w (nI p) (nI i)).toNatClampNeg - hi w y (sat w (nI p) (nI (i - 1))).toNatClampNeg) && decide ((nV w : Int) < hi w y (sat w (nI p) (nI i)).toNatClampNeg - hi w y (sat w (nI p) (nI (i + 1))).toNatClampNeg))))))
def hmc (w : W_) (y p : Nat) : Nat → Nat := fo (fun i k => k + (if hmp w y p i then 1 else 0)) 0
def hmq (w : W_) (a y b : Int32) : Int32 := if vx a (nP w) && ((decide (0 < nP w) && vx y 31) && vx b 2) then (if b = nI 0 then nI (hmc w y.toNatClampNeg a.toNatClampNeg (nL w)) else ff (hmp w y.toNatClampNeg a.toNatClampNeg) (nL w) 0) else -2
theorem ff_snoc (p : Nat → Bool) : ∀ k a, a + k < 2 ^ 31 → ff p (k + 1) a = if ff p k a = -1 then (if p (a + k) = true then nI (a + k) else -1) else ff p k a
  | 0, a, h => rfl
  | k + 1, a, h => by
    have e1 : ff p (k + 1 + 1) a = if p a = true then nI a else ff p (k + 1) (a + 1) := rfl
    have e2 : ff p (k + 1) a = if p a = true then nI a else ff p k (a + 1) := rfl
    have ih := ff_snoc p k (a + 1) (by omega)
    rw [show a + 1 + k = a + (k + 1) by omega] at ih
    rw [e1, e2]
    cases hp : p a
    · simp only [Bool.false_eq_true, if_false]
      exact ih
    · simp only [if_true]
      rw [if_neg (nI_m1 (by omega))]
theorem X_isHump_s (hF : 1000 ≤ F) (hC : CC D w) (hW : WF w) {p y i : Nat} (hp : p < nP w) (hy : y ≤ 30) (hi0 : 0 < i) (hi1 : i + 1 < nL w) : g_X_isHump F D (nI p) (nI i) (nI y) = some (b01 (hmp w y p i)) := by
  have h4 := wf_P4 hW
  have h5 := wf_L5 hW
  have h8 := wf_A8 hW
  have hv := wf_V30 hW
  unfold g_X_isHump hmp
  rw [decide_eq_true hi0, decide_eq_true hi1, Bool.true_and, Bool.true_and, pk_sub (by omega), nI_add, C_sitterAt_s (by omega) hC hW (by omega), C_sitterAt_s (by omega) hC hW (by omega), C_sitterAt_s (by omega) hC hW (by omega), ob_some, ob_some, ob_some]
  rcases sat_r w (nI p) (nI i) with q | ⟨a, ha, q⟩
  · rw [q, if_pos rfl]
    rfl
  · rw [q, if_neg (nI_m1 (by omega)), decide_eq_false (nI_m1 (by omega))]
    rcases sat_r w (nI p) (nI (i - 1)) with q2 | ⟨b, hb, q2⟩
    · rw [q2, if_pos rfl]
      rfl
    · rw [q2, if_neg (nI_m1 (by omega)), decide_eq_false (nI_m1 (by omega))]
      rcases sat_r w (nI p) (nI (i + 1)) with q3 | ⟨c, hc, q3⟩
      · rw [q3, if_pos rfl]
        rfl
      · have b1 := hi_b hW ha hy
        have b2 := hi_b hW hb hy
        have b3 := hi_b hW hc hy
        have e1 := iI_le (a := hi w y a - nV w) (b := hi w y b) (by omega) (by omega) (by omega) (by omega)
        have e2 := iI_le (a := hi w y a - nV w) (b := hi w y c) (by omega) (by omega) (by omega) (by omega)
        rw [q3, if_neg (nI_m1 (by omega)), decide_eq_false (nI_m1 (by omega)), C_highOf_s (by omega) hC hW ha, C_highOf_s (by omega) hC hW hb, C_highOf_s (by omega) hC hW hc, ob_some, ob_some, ob_some, c_2 hC, wf_V hW, iI_nI (nV w), iI_sub, nI_clamp (by omega), nI_clamp (by omega), nI_clamp (by omega)]
        by_cases c1 : (nV w : Int) < hi w y a - hi w y b
        · rw [if_neg (fun z => by have := e1.mp z; omega), decide_eq_true c1]
          by_cases c2 : (nV w : Int) < hi w y a - hi w y c
          · rw [if_neg (fun z => by have := e2.mp z; omega), decide_eq_true c2]
            rfl
          · rw [if_pos (e2.mpr (by omega)), decide_eq_false c2]
            rfl
        · rw [if_pos (e1.mpr (by omega)), decide_eq_false c1]
          rfl
theorem x_hump (hF : 1000 ≤ F) (hC : CC D w) (hW : WF w) (a y b : Int32) : g_X_hump F D a y b = some (hmq w a y b) := by
  have h4 := wf_P4 hW
  have h5 := wf_L5 hW
  unfold g_X_hump hmq
  rw [X_canAsk_s hC hW, C_hasPew_s hC hW, rng_s b (m := 1) (by decide)]
  simp only [b01_if]
  cases hq : decide (0 < nP w) && vx y 31
  · rw [Bool.false_and, Bool.and_false]
    rfl
  · rw [Bool.true_and, if_pos rfl]
    rcases vx_c a (nP w) (by omega) with h | ⟨p, hp, rfl⟩
    · rw [h]
      rfl
    · rw [vx_nI (by omega), decide_eq_true hp, Bool.true_and, if_pos rfl]
      rcases vx_c b (1 + 1) (by decide) with h | ⟨k, hk, rfl⟩
      · rw [h]
        rfl
      · simp only [Bool.and_eq_true, decide_eq_true_eq] at hq
        obtain ⟨z, hz, rfl⟩ := vx_of (by decide) hq.2
        have hL := (wf_PL hW).mp hq.1
        rw [vx_nI (by omega), decide_eq_true hk, if_pos rfl, if_pos rfl, nI_clamp (by omega), nI_clamp (by omega)]
        have h0 : hmp w z p 0 = false := rfl
        have hlast : hmp w z p (nL w - 1) = false := by
          unfold hmp
          rw [decide_eq_false (show ¬ (nL w - 1 + 1 < nL w) by omega), Bool.false_and, Bool.and_false]
        have c1 : hmc w z p 1 = 0 := by
          show 0 + (if hmp w z p 0 = true then 1 else 0) = 0
          rw [h0]
          rfl
        have f1 : ff (hmp w z p) 1 0 = -1 := by
          show (if hmp w z p 0 = true then _ else _) = _
          rw [h0]
          rfl
        have cl : hmc w z p (nL w) = hmc w z p (max 1 (nL w - 1)) := by
          rcases Nat.lt_or_ge 1 (nL w) with q | q
          · rw [Nat.max_eq_right (by omega)]
            have e : hmc w z p (nL w - 1 + 1) = hmc w z p (nL w - 1) + (if hmp w z p (nL w - 1) then 1 else 0) := rfl
            rw [hlast, show nL w - 1 + 1 = nL w by omega] at e
            rw [e]
            rfl
          · rw [Nat.max_eq_left (by omega), show nL w = 1 by omega]
        have fl2 : ff (hmp w z p) (nL w) 0 = ff (hmp w z p) (max 1 (nL w - 1)) 0 := by
          rcases Nat.lt_or_ge 1 (nL w) with q | q
          · rw [Nat.max_eq_right (by omega)]
            have e := ff_snoc (hmp w z p) (nL w - 1) 0 (by omega)
            rw [show nL w - 1 + 1 = nL w by omega, show 0 + (nL w - 1) = nL w - 1 by omega, hlast] at e
            rw [e]
            simp only [Bool.false_eq_true, if_false]
            split
            · rename_i h
              exact h.symm
            · rfl
          · rw [Nat.max_eq_left (by omega), show nL w = 1 by omega]
        have key := lu (fun f j => g_X_hump_40 F D f (nI p) (nI z) (nI k) (nI (hmc w z p (j + 1))) (ff (hmp w z p) (j + 1) 0) (nI (j + 1))) (max 1 (nL w - 1) - 1) (if nI k = nI 0 then some (nI (hmc w z p (nL w))) else some (ff (hmp w z p) (nL w) 0)) (fun f j hj => Or.inr ?_) (fun f => ?_) (max 1 (nL w - 1) - 1) F 0 (by omega) (by omega)
        · have key2 : g_X_hump_40 F D F (nI p) (nI z) (nI k) (nI (hmc w z p 1)) (ff (hmp w z p) 1 0) (nI 1) = if nI k = nI 0 then some (nI (hmc w z p (nL w))) else some (ff (hmp w z p) (nL w) 0) := key
          rw [c1, f1] at key2
          rw [key2]
          split <;> rfl
        · have hi : j + 1 < max 1 (nL w - 1) := by omega
          have hi1 : 1 ≤ j + 1 := by omega
          show g_X_hump_40 F D (f + 1) _ _ _ (nI (hmc w z p (j + 1))) (ff (hmp w z p) (j + 1) 0) (nI (j + 1)) = g_X_hump_40 F D f _ _ _ (nI (hmc w z p (j + 1 + 1))) (ff (hmp w z p) (j + 1 + 1) 0) (nI (j + 1 + 1))
          generalize j + 1 = i at hi hi1 ⊢
          rw [s_X_hump_40]
          unfold b_X_hump_40
          have hlt : i + 1 < nL w := by
            rcases Nat.le_total 1 (nL w - 1) with q | q
            · rw [Nat.max_eq_right q] at hi
              omega
            · rw [Nat.max_eq_left q] at hi
              omega
          have e1 : hmc w z p (i + 1) = hmc w z p i + (if hmp w z p i then 1 else 0) := rfl
          have e2 := ff_snoc (hmp w z p) i 0 (by omega)
          rw [show 0 + i = i by omega] at e2
          rw [c_1 hC, wf_L hW, pk_sub (by omega), if_neg (nI_ge (by omega) (by omega)), X_isHump_s hF hC hW hp (by omega) (by omega) hlt, ob_some, nI_add, nI_add, e1, e2]
          simp only [b01_if]
          cases hmp w z p i
          · simp only [Bool.false_eq_true, if_false]
            congr 1
            split
            · rename_i h
              exact h
            · rfl
          · simp only [if_true]
            split <;> rfl
        · have eN : max 1 (nL w - 1) - 1 + 1 = max 1 (nL w - 1) := by omega
          show g_X_hump_40 F D (f + 1) _ _ _ (nI (hmc w z p (max 1 (nL w - 1) - 1 + 1))) (ff (hmp w z p) (max 1 (nL w - 1) - 1 + 1) 0) (nI (max 1 (nL w - 1) - 1 + 1)) = _
          rw [eN]
          rw [s_X_hump_40]
          unfold b_X_hump_40
          rw [c_1 hC, wf_L hW, pk_sub (by omega), if_pos (nI_le (by omega) (by omega)), cl, fl2]
          by_cases c : k = 0
          · subst c
            rw [if_pos (show nI 0 = 0 from rfl), if_pos rfl]
          · rw [if_neg (fun q => c ((nI_z k (by omega)).mp q)), if_neg (fun q => c ((nI_eq (by omega) (by decide)).mp q))]
theorem M_isHump_s (hF : 1000 ≤ F) (hW : WF (D 117)) {p y i : Nat} (hp : p < nP (D 117)) (hy : y ≤ 30) (hi1 : i < nL (D 117)) (hh : ∀ x, x < nA (D 117) → D 123 x = iI (hi (D 117) y x)) : g_M_isHump F D (nI p) (nI i) = some (b01 (hmp (D 117) y p i)) := by
  have h4 := wf_P4 hW
  have h5 := wf_L5 hW
  have h8 := wf_A8 hW
  have hv := wf_V30 hW
  unfold g_M_isHump hmp
  by_cases hi0 : i = 0
  · rw [if_pos (by rw [hi0]; rfl), decide_eq_false (by omega)]
    rfl
  · rw [if_neg (fun q => hi0 ((nI_z i (by omega)).mp q)), decide_eq_true (by omega), Bool.true_and, nI_add, wf_L hW]
    by_cases hi2 : i + 1 < nL (D 117)
    · rw [if_pos (nI_lt hi2 (by omega)), decide_eq_true hi2, Bool.true_and, pk_sub (by omega), M_sitterAt_s (by omega) hW, M_sitterAt_s (by omega) hW, M_sitterAt_s (by omega) hW, ob_some, ob_some, ob_some]
      rcases sat_r (D 117) (nI p) (nI i) with q | ⟨a, ha, q⟩
      · rw [q, if_pos rfl]
        rfl
      · rw [q, if_neg (nI_m1 (by omega)), decide_eq_false (nI_m1 (by omega))]
        rcases sat_r (D 117) (nI p) (nI (i - 1)) with q2 | ⟨b, hb, q2⟩
        · rw [q2, if_pos rfl]
          rfl
        · rw [q2, if_neg (nI_m1 (by omega)), decide_eq_false (nI_m1 (by omega))]
          rcases sat_r (D 117) (nI p) (nI (i + 1)) with q3 | ⟨c, hc, q3⟩
          · rw [q3, if_pos rfl]
            rfl
          · have b1 := hi_b hW ha hy
            have b2 := hi_b hW hb hy
            have b3 := hi_b hW hc hy
            have e1 := iI_le (a := hi (D 117) y a - hi (D 117) y b) (b := nV (D 117)) (by omega) (by omega) (by omega) (by omega)
            have e2 := iI_le (a := hi (D 117) y a - hi (D 117) y c) (b := nV (D 117)) (by omega) (by omega) (by omega) (by omega)
            rw [q3, if_neg (nI_m1 (by omega)), decide_eq_false (nI_m1 (by omega)), rk_in (by omega) (by decide), rk_in (by omega) (by decide), rk_in (by omega) (by decide), rk_in (by omega) (by decide), nI_clamp (by omega), nI_clamp (by omega), nI_clamp (by omega), hh a ha, hh b hb, hh c hc, wf_V hW, iI_nI (nV (D 117)), iI_sub, iI_sub]
            by_cases c1 : (nV (D 117) : Int) < hi (D 117) y a - hi (D 117) y b
            · rw [if_neg (fun z => by have := e1.mp z; omega), decide_eq_true c1]
              by_cases c2 : (nV (D 117) : Int) < hi (D 117) y a - hi (D 117) y c
              · rw [if_neg (fun z => by have := e2.mp z; omega), decide_eq_true c2]
                rfl
              · rw [if_pos (e2.mpr (by omega)), decide_eq_false c2]
                rfl
            · rw [if_pos (e1.mpr (by omega)), decide_eq_false c1]
              rfl
    · rw [if_neg (nI_nlt (by omega) (by omega)), decide_eq_false hi2, Bool.false_and]
      rfl
theorem hmc_mono (w : W_) (y p : Nat) : ∀ k i, hmc w y p i ≤ hmc w y p (i + k)
  | 0, i => Nat.le_refl _
  | k + 1, i => by
    have h := hmc_mono w y p k i
    have e : hmc w y p (i + k + 1) = hmc w y p (i + k) + (if hmp w y p (i + k) then 1 else 0) := rfl
    rw [← Nat.add_assoc, e]
    omega
theorem m_hump (hF : 1000 ≤ F) (hW : WF (D 117)) (a y b : Int32) : ∃ D1, g_M_hump F a y b D = some (hmq (D 117) a y b, D1) ∧ FM D D1 := by
  have h4 := wf_P4 hW
  have h5 := wf_L5 hW
  unfold g_M_hump hmq
  rw [M_isYear_s hW, M_isPew_s hW, vl_i, M_in_i b (n := 1) (by decide)]
  simp only [b01_if]
  rcases vx_c a (nP (D 117)) (by omega) with h | ⟨p, hp, rfl⟩
  · rw [h]
    exact ⟨_, rfl, FM_r D⟩
  · rw [vx_nI (by omega), decide_eq_true hp, Bool.true_and, if_pos rfl]
    cases hq : decide (0 < nP (D 117)) && vx y 31
    · exact ⟨_, rfl, FM_r D⟩
    · rw [Bool.true_and, if_pos rfl]
      rcases vx_c b (1 + 1) (by decide) with h | ⟨k, hk, rfl⟩
      · rw [h]
        exact ⟨_, rfl, FM_r D⟩
      · simp only [Bool.and_eq_true, decide_eq_true_eq] at hq
        obtain ⟨z, hz, rfl⟩ := vx_of (by decide) hq.2
        have hL := (wf_PL hW).mp hq.1
        obtain ⟨D1, h1, h2, h3⟩ := M_lay_s (F := F) (by omega) hW z
        have ew := h2 117 (by decide)
        have hw : WF (D1 117) := by rw [ew]; exact hW
        rw [vx_nI (by omega), decide_eq_true hk, if_pos rfl, if_pos rfl, nI_clamp (by omega), nI_clamp (by omega), h1, ob_some, wf_L hw, ew, pk_sub (by omega)]
        refine ⟨D1, ?_, FM_123 h2⟩
        have key : ∀ i f, i ≤ nL (D 117) → i < f → g_M_hump_51 F f (nI p) (nI k) (nI (hmc (D 117) z p (nL (D 117)) - hmc (D 117) z p i)) (ff (hmp (D 117) z p) (nL (D 117) - i) i) (nI i - nI 1) D1 = some (if nI k = nI 0 then nI (hmc (D 117) z p (nL (D 117))) else ff (hmp (D 117) z p) (nL (D 117)) 0, D1) := by
          intro i
          induction i with
          | zero =>
            intro f hi hf
            obtain ⟨f, rfl⟩ : ∃ g, f = g + 1 := ⟨f - 1, by omega⟩
            rw [s_M_hump_51]
            unfold b_M_hump_51
            rw [if_pos (by decide)]
            have e0 : hmc (D 117) z p 0 = 0 := rfl
            rw [e0, Nat.sub_zero, Nat.sub_zero]
            by_cases c : k = 0
            · subst c
              rw [if_pos (show nI 0 = 0 from rfl), if_pos rfl]
            · rw [if_neg (fun q => c ((nI_z k (by omega)).mp q)), if_neg (fun q => c ((nI_eq (by omega) (by decide)).mp q))]
          | succ i ih =>
            intro f hi hf
            obtain ⟨f, rfl⟩ : ∃ g, f = g + 1 := ⟨f - 1, by omega⟩
            have ih2 := ih f (by omega) (by omega)
            rw [pk_sub (by omega), Nat.add_sub_cancel]
            rw [s_M_hump_51]
            unfold b_M_hump_51
            have em : nI i + (-1 : Int32) = nI i - nI 1 := by
              rw [iI_nI i, iI_nI 1, iI_m1, iI_add, iI_sub]
              rfl
            rw [if_neg (nI_pos (by omega)), M_isHump_s (by omega) hw (p := p) (y := z) (i := i) (by rw [ew]; exact hp) (by omega) (by rw [ew]; omega) (by rw [ew]; exact h3), ob_some, nI_add, em, ew]
            simp only [b01_if]
            have m1 := hmc_mono (D 117) z p (nL (D 117) - (i + 1)) (i + 1)
            rw [show i + 1 + (nL (D 117) - (i + 1)) = nL (D 117) by omega] at m1
            have e1 : hmc (D 117) z p (i + 1) = hmc (D 117) z p i + (if hmp (D 117) z p i then 1 else 0) := rfl
            have e2 : ff (hmp (D 117) z p) (nL (D 117) - i) i = if hmp (D 117) z p i = true then nI i else ff (hmp (D 117) z p) (nL (D 117) - (i + 1)) (i + 1) := by
              rw [show nL (D 117) - i = (nL (D 117) - (i + 1)) + 1 by omega]
              rfl
            rw [e2] at ih2
            cases hm : hmp (D 117) z p i
            · rw [hm] at e1 ih2
              simp only [Bool.false_eq_true, if_false, Nat.add_zero] at e1 ih2 ⊢
              rw [e1]
              exact ih2
            · rw [hm] at e1 ih2
              simp only [if_true] at e1 ih2 ⊢
              rw [e1] at m1 ⊢
              rw [show hmc (D 117) z p (nL (D 117)) - (hmc (D 117) z p i + 1) + 1 = hmc (D 117) z p (nL (D 117)) - hmc (D 117) z p i by omega]
              exact ih2
        have q := key (nL (D 117)) F (Nat.le_refl _) (by omega)
        rw [Nat.sub_self, Nat.sub_self, pk_sub (by omega)] at q
        exact q
end HM
