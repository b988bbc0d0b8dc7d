/-! ===== questions over heights ===== -/
section LV
variable {D : mx_D} {w : W_} {F : Nat}
/-- level, first -/
theorem x_level (hF : 100 ≤ F) (hC : CC D w) (hW : WF w) (a : Int32) : ∃ D1, g_X_level F a D = some (if decide (0 < nP w) && vx a 31 then b01 (lev w a.toNatClampNeg) else -2, D1) ∧ FX D D1 := by
  unfold g_X_level
  rw [X_canAsk_s hC hW]
  simp only [b01_if]
  rcases vx_c a 31 (by decide) with h | ⟨y, hy, rfl⟩
  · rw [h, Bool.and_false, if_neg (by decide), if_neg (by decide)]
    exact ⟨_, rfl, FX_r D⟩
  · rw [vx_nI (by omega), decide_eq_true hy, Bool.and_true]
    cases decide (0 < nP w)
    · rw [if_neg (by decide), if_neg (by decide)]
      exact ⟨_, rfl, FX_r D⟩
    · obtain ⟨D1, h1, h2, -⟩ := X_isLevelIn_s hF hC hW (y := y) (by omega)
      rw [if_pos rfl, if_pos rfl, h1, ob_some, nI_clamp (by omega)]
      simp only [b01_if]
      refine ⟨D1, ?_, FX_h h2⟩
      cases lev w y <;> rfl
theorem m_level (hF : 100 ≤ F) (hW : WF (D 117)) (a : Int32) : ∃ D1, g_M_level F a D = some (if decide (0 < nP (D 117)) && vx a 31 then b01 (lev (D 117) a.toNatClampNeg) else -2, D1) ∧ FM D D1 := by
  unfold g_M_level
  rw [M_isYear_s hW]
  simp only [b01_if]
  rcases vx_c a 31 (by decide) with h | ⟨y, hy, rfl⟩
  · rw [h, Bool.and_false, if_neg (by decide), if_neg (by decide)]
    exact ⟨_, rfl, FM_r D⟩
  · rw [vx_nI (by omega), decide_eq_true hy, Bool.and_true]
    cases decide (0 < nP (D 117))
    · rw [if_neg (by decide), if_neg (by decide)]
      exact ⟨_, rfl, FM_r D⟩
    · obtain ⟨D1, h1, h2, -⟩ := M_isLevel_s hF hW (y := y) (by omega)
      rw [if_pos rfl, if_pos rfl, h1, ob_some, nI_clamp (by omega)]
      simp only [b01_if]
      refine ⟨D1, ?_, FM_123 h2⟩
      cases lev (D 117) y <;> rfl
/-- the first year from y on, of k, in which it is not -/
theorem x_first (hF : 100 ≤ F) (hC : CC D w) (hW : WF w) (a : Int32) : ∃ D1, g_X_first F a D = some (if decide (0 < nP w) && vx a 31 then ff (fun y => !lev w y) (31 - a.toNatClampNeg) a.toNatClampNeg else -2, D1) ∧ FX D D1 := by
  unfold g_X_first
  rw [X_canAsk_s hC hW]
  simp only [b01_if]
  rcases vx_c a 31 (by decide) with h | ⟨y, hy, rfl⟩
  · rw [h, Bool.and_false, if_neg (by decide), if_neg (by decide)]
    exact ⟨_, rfl, FX_r D⟩
  · rw [vx_nI (by omega), decide_eq_true hy, Bool.and_true]
    cases decide (0 < nP w)
    · rw [if_neg (by decide), if_neg (by decide)]
      exact ⟨_, rfl, FX_r D⟩
    · rw [if_pos rfl, if_pos rfl, nI_clamp (by omega)]
      have key : ∀ k f y s, y + k = 31 → k < f → FX D s → ∃ D1, g_X_first_13 F f (nI y) s = some (ff (fun y => !lev w y) k y, D1) ∧ FX D D1 := by
        intro k
        induction k with
        | zero =>
          intro f y s hy hf hs
          obtain ⟨f, rfl⟩ : ∃ g, f = g + 1 := ⟨f - 1, by omega⟩
          obtain rfl : y = 31 := by omega
          rw [s_X_first_13]
          unfold b_X_first_13
          rw [if_pos (by decide)]
          exact ⟨_, rfl, hs⟩
        | succ k ih =>
          intro f y s hy hf hs
          obtain ⟨f, rfl⟩ : ∃ g, f = g + 1 := ⟨f - 1, by omega⟩
          have hc : CC s w := CC_of hC (fun c hc => hs c (by omega))
          obtain ⟨D1, h1, h2, -⟩ := X_isLevelIn_s hF hc hW (y := y) (by omega)
          rw [s_X_first_13]
          unfold b_X_first_13
          rw [if_neg (nI_nlt (by omega) (by omega)), h1, ob_some, nI_add]
          simp only [b01_if]
          have e : ff (fun y => !lev w y) (k + 1) y = if (!lev w y) = true then nI y else ff (fun y => !lev w y) k (y + 1) := rfl
          rw [e]
          cases lev w y
          · exact ⟨D1, rfl, FX_t hs (FX_h h2)⟩
          · exact ih f (y + 1) D1 (by omega) (by omega) (FX_t hs (FX_h h2))
      exact key (31 - y) F y D (by omega) (by omega) (FX_r D)
theorem m_first (hF : 100 ≤ F) (hW : WF (D 117)) (a : Int32) : ∃ D1, g_M_first F a D = some (if decide (0 < nP (D 117)) && vx a 31 then ff (fun y => !lev (D 117) y) (31 - a.toNatClampNeg) a.toNatClampNeg else -2, D1) ∧ FM D D1 := by
  unfold g_M_first
  rw [M_isYear_s hW]
  simp only [b01_if]
  rcases vx_c a 31 (by decide) with h | ⟨y, hy, rfl⟩
  · rw [h, Bool.and_false, if_neg (by decide), if_neg (by decide)]
    exact ⟨_, rfl, FM_r D⟩
  · rw [vx_nI (by omega), decide_eq_true hy, Bool.and_true]
    cases decide (0 < nP (D 117))
    · rw [if_neg (by decide), if_neg (by decide)]
      exact ⟨_, rfl, FM_r D⟩
    · rw [if_pos rfl, if_pos rfl, nI_clamp (by omega)]
      have key : ∀ k f y s, y + k = 31 → k < f → FM D s → ∃ D1, g_M_first_13 F f (nI y) s = some (ff (fun y => !lev (D 117) y) k y, D1) ∧ FM D D1 := by
        intro k
        induction k with
        | zero =>
          intro f y s hy hf hs
          obtain ⟨f, rfl⟩ : ∃ g, f = g + 1 := ⟨f - 1, by omega⟩
          obtain rfl : y = 31 := by omega
          rw [s_M_first_13]
          unfold b_M_first_13
          rw [if_pos (by decide)]
          exact ⟨_, rfl, hs⟩
        | succ k ih =>
          intro f y s hy hf hs
          obtain ⟨f, rfl⟩ : ∃ g, f = g + 1 := ⟨f - 1, by omega⟩
          have ew := hs.2.1.1
          have hw : WF (s 117) := by rw [ew]; exact hW
          obtain ⟨D1, h1, h2, -⟩ := M_isLevel_s hF hw (y := y) (by omega)
          rw [s_M_first_13]
          unfold b_M_first_13
          rw [if_neg (nI_nlt (by omega) (by omega)), h1, ob_some, nI_add, ew]
          simp only [b01_if]
          have e : ff (fun y => !lev (D 117) y) (k + 1) y = if (!lev (D 117) y) = true then nI y else ff (fun y => !lev (D 117) y) k (y + 1) := rfl
          rw [e]
          cases lev (D 117) y
          · exact ⟨D1, rfl, FM_t hs (FM_123 h2)⟩
          · exact ih f (y + 1) D1 (by omega) (by omega) (FM_t hs (FM_123 h2))
      exact key (31 - y) F y D (by omega) (by omega) (FM_r D)
/-- spread -/
theorem x_spread (hF : 100 ≤ F) (hC : CC D w) (hW : WF w) (a b : Int32) : ∃ D1, g_X_spread F a b D = some (if decide (0 < nP w) && vx b 31 then (if a = -1 then iI (spr (hi w b.toNatClampNeg) (sM w)) else if vx a (nP w) then iI (spr (hi w b.toNatClampNeg) (pM w a.toNatClampNeg)) else -2) else -2, D1) ∧ FX D D1 := by
  have h4 := wf_P4 hW
  unfold g_X_spread
  rw [X_canAsk_s hC hW, C_hasPew_s hC hW]
  simp only [b01_if]
  rcases vx_c b 31 (by decide) with h | ⟨y, hy, rfl⟩
  · rw [h, Bool.and_false, if_neg (by decide), if_neg (by decide)]
    exact ⟨_, rfl, FX_r D⟩
  · rw [vx_nI (by omega), decide_eq_true hy, Bool.and_true]
    cases decide (0 < nP w)
    · rw [if_neg (by decide), if_neg (by decide)]
      exact ⟨_, rfl, FX_r D⟩
    · obtain ⟨D1, h1, h2, h3⟩ := H_take_s hF hC hW y
      rw [if_pos rfl, if_pos rfl, nI_clamp (by omega)]
      have hsp : ∀ m, sub m (nA w) → g_Heights_spreadOf F D1 (nI m) = some (iI (spr (hi w y) m)) := fun m hm => H_spread_s hF (wf_A8 hW) h3.1 (hi_r hW (by omega)) hm
      by_cases ha : a = -1
      · rw [if_pos ha, if_pos ha]
        unfold b_X_spread_27
        rw [h1, ob_some, if_pos ha, h3.2.2.1, hsp _ (sub_sM w), ob_some]
        exact ⟨_, rfl, FX_h h2⟩
      · rw [if_neg ha, if_neg ha]
        rcases vx_c a (nP w) (by omega) with h | ⟨p, hp, rfl⟩
        · rw [h, if_neg (by decide), if_neg (by decide)]
          exact ⟨_, rfl, FX_r D⟩
        · rw [vx_nI (by omega), decide_eq_true hp, if_pos rfl, if_pos rfl, nI_clamp (by omega)]
          unfold b_X_spread_27
          rw [h1, ob_some, if_neg ha, rk_in (by omega) (by decide), nI_clamp (by omega), h3.2.1 p (by omega), hsp _ (sub_pM w p), ob_some]
          exact ⟨_, rfl, FX_h h2⟩
theorem m_spread (hF : 100 ≤ F) (hW : WF (D 117)) (a b : Int32) : ∃ D1, g_M_spread F a b D = some (if decide (0 < nP (D 117)) && vx b 31 then (if a = -1 then iI (spr (hi (D 117) b.toNatClampNeg) (sM (D 117))) else if vx a (nP (D 117)) then iI (spr (hi (D 117) b.toNatClampNeg) (pM (D 117) a.toNatClampNeg)) else -2) else -2, D1) ∧ FM D D1 := by
  have h4 := wf_P4 hW
  unfold g_M_spread
  rw [M_isYear_s hW, M_isPew_s hW, vl_i]
  simp only [b01_if]
  rcases vx_c b 31 (by decide) with h | ⟨y, hy, rfl⟩
  · rw [h, Bool.and_false, if_neg (by decide), if_neg (by decide)]
    exact ⟨_, rfl, FM_r D⟩
  · rw [vx_nI (by omega), decide_eq_true hy, Bool.and_true]
    cases decide (0 < nP (D 117))
    · rw [if_neg (by decide), if_neg (by decide)]
      exact ⟨_, rfl, FM_r D⟩
    · obtain ⟨D1, h1, h2, h3⟩ := M_lay_s hF hW y
      have e := h2 117 (by decide)
      have hw : WF (D1 117) := by rw [e]; exact hW
      rw [if_pos rfl, if_pos rfl, nI_clamp (by omega)]
      have hsp : ∀ m, sub m (nA (D 117)) → g_M_spreadOf F D1 (nI m) = some (iI (spr (hi (D 117) y) m)) := fun m hm => M_spreadOf_s hF hw (by rw [e]; exact h3) (by rw [e]; exact hi_r hW (by omega)) (by rw [e]; exact hm)
      by_cases ha : a = -1
      · rw [if_pos ha, if_pos ha]
        unfold b_M_spread_25
        rw [h1, ob_some, if_pos ha, M_sitters_s hF hw, ob_some, e, hsp _ (sub_sM _), ob_some]
        exact ⟨_, rfl, FM_123 h2⟩
      · rw [if_neg ha, if_neg ha]
        rcases vx_c a (nP (D 117)) (by omega) with h | ⟨p, hp, rfl⟩
        · rw [h, if_neg (by decide), if_neg (by decide)]
          exact ⟨_, rfl, FM_r D⟩
        · rw [vx_nI (by omega), decide_eq_true hp, if_pos rfl, if_pos rfl, nI_clamp (by omega)]
          unfold b_M_spread_25
          rw [h1, ob_some, if_neg ha, M_inPew_s hF hw, ob_some, e, hsp _ (sub_pM _ p), ob_some]
          exact ⟨_, rfl, FM_123 h2⟩
/-- out: the tallest, the lowest of those who sit below n -/
def keeps (b : Bool) (u v : Int) : Bool := match b with
  | true => decide (u ≤ v)
  | false => decide (v ≤ u)
def outs (w : W_) (y : Nat) (b : Bool) : Nat → Int32
  | 0 => -1
  | n + 1 => if st w n = true then (if outs w y b n = -1 then nI n else if keeps b (hi w y n) (hi w y (outs w y b n).toNatClampNeg) = true then outs w y b n else nI n) else outs w y b n
theorem outs_r (w : W_) (y : Nat) (b : Bool) : ∀ n, outs w y b n = -1 ∨ ∃ j, j < n ∧ outs w y b n = nI j
  | 0 => Or.inl rfl
  | n + 1 => by
    have ih := outs_r w y b n
    have e : outs w y b (n + 1) = if st w n = true then (if outs w y b n = -1 then nI n else if keeps b (hi w y n) (hi w y (outs w y b n).toNatClampNeg) = true then outs w y b n else nI n) else outs w y b n := rfl
    have ih2 : outs w y b n = -1 ∨ ∃ j, j < n + 1 ∧ outs w y b n = nI j := ih.imp id (fun ⟨j, h1, h2⟩ => ⟨j, by omega, h2⟩)
    rw [e]
    (repeat' split) <;> first | exact ih2 | exact Or.inr ⟨n, by omega, rfl⟩
theorem x_out (hF : 100 ≤ F) (hC : CC D w) (hW : WF w) (a b : Int32) : ∃ D1, g_X_out F a b D = some (if decide (0 < nP w) && vx a 31 then (if vx b 2 then outs w a.toNatClampNeg (decide (b = nI 0)) (nA w) else -2) else -2, D1) ∧ FX D D1 := by
  have h8 := wf_A8 hW
  unfold g_X_out
  rw [X_canAsk_s hC hW, rng_s b (m := 1) (by decide)]
  simp only [b01_if]
  rcases vx_c a 31 (by decide) with h | ⟨y, hy, rfl⟩
  · rw [h, Bool.and_false, if_neg (by decide), if_neg (by decide)]
    exact ⟨_, rfl, FX_r D⟩
  · rw [vx_nI (by omega), decide_eq_true hy, Bool.and_true]
    cases decide (0 < nP w)
    · rw [if_neg (by decide), if_neg (by decide)]
      exact ⟨_, rfl, FX_r D⟩
    · rw [if_pos rfl, if_pos rfl, nI_clamp (by omega)]
      rcases vx_c b (1 + 1) (by decide) with h | ⟨k, hk, rfl⟩
      · rw [h, if_neg (by decide), if_neg (by decide)]
        exact ⟨_, rfl, FX_r D⟩
      · obtain ⟨D1, h1, h2, h3⟩ := H_take_s hF hC hW y
        rw [vx_nI (by omega), decide_eq_true hk, if_pos rfl, if_pos rfl, h1, ob_some]
        refine ⟨D1, ?_, FX_h h2⟩
        have hc : CC D1 w := CC_of hC (fun c hc => h2 c (by omega))
        refine lu0 (fun f n => g_X_out_37 F f (nI k) (outs w y (decide (nI k = nI 0)) n) (nI n) D1) (n := nA w) _ (by omega) (fun f n hn => ?_) (fun f => ?_)
        · rw [s_X_out_37]
          unfold b_X_out_37
          have hsM := mk_8 (fun x => st w x) h8
          have eI : g_Heights_isIn D1 (nI n) = b01 (st w n) := by
            unfold g_Heights_isIn
            rw [h3.2.2.1]
            unfold sM
            rw [nb_bit (by omega) (by omega), mk_tb, decide_eq_true hn, Bool.true_and]
            cases st w n <;> rfl
          rw [c_24 hc, wf_A hW, if_neg (nI_ge hn (by omega)), eI, nI_add]
          have eo : outs w y (decide (nI k = nI 0)) (n + 1) = if st w n = true then (if outs w y (decide (nI k = nI 0)) n = -1 then nI n else if keeps (decide (nI k = nI 0)) (hi w y n) (hi w y (outs w y (decide (nI k = nI 0)) n).toNatClampNeg) = true then outs w y (decide (nI k = nI 0)) n else nI n) else outs w y (decide (nI k = nI 0)) n := rfl
          rw [eo]
          simp only [b01_if]
          cases st w n
          · rfl
          · rw [if_pos rfl, if_pos rfl]
            rcases outs_r w y (decide (nI k = nI 0)) n with q | ⟨j, hj, q⟩
            · rw [q, if_pos rfl, if_pos rfl]
            · have b1 := hi_b hW hn (y := y) (by omega)
              have b2 := hi_b hW (x := j) (by omega) (y := y) (by omega)
              rw [q, if_neg (nI_m1 (by omega)), if_neg (nI_m1 (by omega)), nI_clamp (by omega)]
              unfold g_X_standsOut
              rw [rk_in (by omega) (by decide), rk_in (by omega) (by decide), nI_clamp (by omega), nI_clamp (by omega), h3.1 n hn, h3.1 j (by omega), iI_sub]
              have e1 : iI (hi w y n - hi w y j) ≤ (0 : Int32) ↔ hi w y n - hi w y j ≤ 0 := iI_le (b := 0) (by omega) (by omega) (by omega) (by omega)
              have e2 : (0 : Int32) ≤ iI (hi w y n - hi w y j) ↔ 0 ≤ hi w y n - hi w y j := iI_le (a := 0) (by omega) (by omega) (by omega) (by omega)
              rcases (show k = 0 ∨ k = 1 by omega) with rfl | rfl
              · rw [if_pos (show nI 0 = 0 from rfl), show decide (nI 0 = nI 0) = true from rfl]
                have kk : keeps true (hi w y n) (hi w y j) = decide (hi w y n ≤ hi w y j) := rfl
                by_cases c : hi w y n ≤ hi w y j
                · rw [if_pos (e1.mpr (by omega)), if_pos (kk.trans (decide_eq_true c))]
                  rfl
                · rw [if_neg (fun z => c (by have := e1.mp z; omega)), if_neg (fun z => by rw [kk, decide_eq_true_eq] at z; exact c z)]
                  rfl
              · rw [if_neg (show ¬ nI 1 = 0 by decide), show decide (nI 1 = nI 0) = false from rfl]
                have kk : keeps false (hi w y n) (hi w y j) = decide (hi w y j ≤ hi w y n) := rfl
                by_cases c : hi w y j ≤ hi w y n
                · rw [if_pos (e2.mpr (by omega)), if_pos (kk.trans (decide_eq_true c))]
                  rfl
                · rw [if_neg (fun z => c (by have := e2.mp z; omega)), if_neg (fun z => by rw [kk, decide_eq_true_eq] at z; exact c z)]
                  rfl
        · rw [s_X_out_37]
          unfold b_X_out_37
          rw [c_24 hc, wf_A hW, if_pos (nI_le (Nat.le_refl _) (by omega))]
theorem m_out (hF : 100 ≤ F) (hW : WF (D 117)) (a b : Int32) : ∃ D1, g_M_out F a b D = some (if decide (0 < nP (D 117)) && vx a 31 then (if vx b 2 then outs (D 117) a.toNatClampNeg (decide (b = nI 0)) (nA (D 117)) else -2) else -2, D1) ∧ FM D D1 := by
  have h8 := wf_A8 hW
  unfold g_M_out
  rw [M_isYear_s hW, M_in_i b (n := 1) (by decide)]
  simp only [b01_if]
  rcases vx_c a 31 (by decide) with h | ⟨y, hy, rfl⟩
  · rw [h, Bool.and_false, if_neg (by decide), if_neg (by decide)]
    exact ⟨_, rfl, FM_r D⟩
  · rw [vx_nI (by omega), decide_eq_true hy, Bool.and_true]
    cases decide (0 < nP (D 117))
    · rw [if_neg (by decide), if_neg (by decide)]
      exact ⟨_, rfl, FM_r D⟩
    · rw [if_pos rfl, if_pos rfl, nI_clamp (by omega)]
      rcases vx_c b (1 + 1) (by decide) with h | ⟨k, hk, rfl⟩
      · rw [h, if_neg (by decide), if_neg (by decide)]
        exact ⟨_, rfl, FM_r D⟩
      · obtain ⟨D1, h1, h2, h3⟩ := M_lay_s hF hW y
        have e := h2 117 (by decide)
        have hw : WF (D1 117) := by rw [e]; exact hW
        rw [vx_nI (by omega), decide_eq_true hk, if_pos rfl, if_pos rfl, h1, ob_some]
        refine ⟨D1, ?_, FM_123 h2⟩
        refine lu0 (fun f n => g_M_out_31 F f (nI k) (outs (D 117) y (decide (nI k = nI 0)) n) (nI n) D1) (n := nA (D 117)) _ (by omega) (fun f n hn => ?_) (fun f => ?_)
        · rw [s_M_out_31]
          unfold b_M_out_31
          rw [wf_A hw, e, if_neg (nI_ge hn (by omega)), M_sits_s D1 (by omega), ob_some, e, nI_add]
          have eo : outs (D 117) y (decide (nI k = nI 0)) (n + 1) = if st (D 117) n = true then (if outs (D 117) y (decide (nI k = nI 0)) n = -1 then nI n else if keeps (decide (nI k = nI 0)) (hi (D 117) y n) (hi (D 117) y (outs (D 117) y (decide (nI k = nI 0)) n).toNatClampNeg) = true then outs (D 117) y (decide (nI k = nI 0)) n else nI n) else outs (D 117) y (decide (nI k = nI 0)) n := rfl
          rw [eo]
          simp only [b01_if]
          cases st (D 117) n
          · rfl
          · rw [if_pos rfl, if_pos rfl]
            rcases outs_r (D 117) y (decide (nI k = nI 0)) n with q | ⟨j, hj, q⟩
            · rw [q, if_pos rfl, if_pos rfl]
            · have b1 := hi_b hW hn (y := y) (by omega)
              have b2 := hi_b hW (x := j) (by omega) (y := y) (by omega)
              have e1 := iI_le (a := hi (D 117) y n) (b := hi (D 117) y j) (by omega) (by omega) (by omega) (by omega)
              have e2 := iI_le (a := hi (D 117) y j) (b := hi (D 117) y n) (by omega) (by omega) (by omega) (by omega)
              rw [q, if_neg (nI_m1 (by omega)), if_neg (nI_m1 (by omega)), nI_clamp (by omega), rk_in (by omega) (by decide), rk_in (by omega) (by decide), rk_in (by omega) (by decide), rk_in (by omega) (by decide), nI_clamp (by omega), h3 n hn, h3 j (by omega)]
              rcases (show k = 0 ∨ k = 1 by omega) with rfl | rfl
              · rw [if_pos (show nI 0 = 0 from rfl), show decide (nI 0 = nI 0) = true from rfl]
                have kk : keeps true (hi (D 117) y n) (hi (D 117) y j) = decide (hi (D 117) y n ≤ hi (D 117) y j) := rfl
                by_cases c : hi (D 117) y n ≤ hi (D 117) y j
                · rw [if_pos (e1.mpr c), if_pos (kk.trans (decide_eq_true c))]
                · rw [if_neg (fun z => c (e1.mp z)), if_neg (fun z => by rw [kk, decide_eq_true_eq] at z; exact c z)]
              · rw [if_neg (show ¬ nI 1 = 0 by decide), show decide (nI 1 = nI 0) = false from rfl]
                have kk : keeps false (hi (D 117) y n) (hi (D 117) y j) = decide (hi (D 117) y j ≤ hi (D 117) y n) := rfl
                by_cases c : hi (D 117) y j ≤ hi (D 117) y n
                · rw [if_pos (e2.mpr c), if_pos (kk.trans (decide_eq_true c))]
                · rw [if_neg (fun z => c (e2.mp z)), if_neg (fun z => by rw [kk, decide_eq_true_eq] at z; exact c z)]
        · rw [s_M_out_31]
          unfold b_M_out_31
          rw [wf_A hw, e, if_pos (nI_le (Nat.le_refl _) (by omega))]
end LV
