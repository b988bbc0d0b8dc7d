/-! ===== above, away, stay, stilts, lengths ===== -/
section ST
variable {D : mx_D} {w : W_} {F : Nat}
/-- may one ask of a sitter in a year -/
def askS (w : W_) (a y : Int32) : Bool := vx a (nA w) && (decide (0 < nP w) && vx y 31) && st w a.toNatClampNeg
theorem askS_t (hW : WF w) {a y : Int32} (h : askS w a y = true) : ∃ x k, a = nI x ∧ x < nA w ∧ y = nI k ∧ k < 31 ∧ st w x = true ∧ 0 < nP w := by
  have h8 := wf_A8 hW
  unfold askS at h
  simp only [Bool.and_eq_true, decide_eq_true_eq] at h
  obtain ⟨⟨h1, h2, h3⟩, h4⟩ := h
  obtain ⟨x, hx, rfl⟩ := vx_of (by omega) h1
  obtain ⟨k, hk, rfl⟩ := vx_of (by decide) h3
  rw [nI_clamp (by omega)] at h4
  exact ⟨x, k, rfl, hx, rfl, hk, h4, h2⟩
theorem isIn_s {n : Nat} {hs : Nat → Int} {pm : Nat → Nat} {sm : Nat} {b : Bool} (hT : HT D n hs pm sm b) (hsm : sm < 2 ^ 31) {x : Nat} (hx : x < 31) : g_Heights_isIn D (nI x) = b01 (sm.testBit x) := by
  unfold g_Heights_isIn
  rw [hT.2.2.1, nb_bit hsm (by omega)]
  cases sm.testBit x <;> rfl
theorem sM_tb (w : W_) {x : Nat} (hx : x < nA w) : (sM w).testBit x = st w x := by
  unfold sM
  rw [mk_tb, decide_eq_true hx, Bool.true_and]
theorem sM_256 (hW : WF w) : sM w < 256 := sub_256 (sub_sM w) (wf_A8 hW)
def abv (w : W_) (y x : Nat) : Nat := fo (fun z k => k + (if st w z && decide (hi w y z < hi w y x) then 1 else 0)) 0 (nA w)
theorem x_above (hF : 100 ≤ F) (hC : CC D w) (hW : WF w) (a b : Int32) : ∃ D1, g_X_above F a b D = some (if askS w a b then nI (abv w b.toNatClampNeg a.toNatClampNeg) else -2, D1) ∧ FX D D1 := by
  have h8 := wf_A8 hW
  unfold g_X_above
  rw [X_canAskOf_s hC hW, ob_some]
  simp only [b01_if]
  show ∃ D1, (if askS w a b = true then _ else _) = _ ∧ _
  cases hq : askS w a b
  · exact ⟨_, rfl, FX_r D⟩
  · obtain ⟨x, y, rfl, hx, rfl, hy, hs, -⟩ := askS_t hW hq
    obtain ⟨D1, h1, h2, h3⟩ := H_take_s hF hC hW y
    rw [if_pos rfl, if_pos rfl, nI_clamp (by omega), nI_clamp (by omega), h1, ob_some]
    refine ⟨D1, ?_, FX_h h2⟩
    have hc : CC D1 w := CC_of hC (fun c hc => h2 c (by omega))
    unfold abv
    refine lu0 (fun f n => g_X_above_29 F f (nI x) (nI (fo (fun z k => k + (if st w z && decide (hi w y z < hi w y x) then 1 else 0)) 0 n)) (nI n) D1) (n := nA w) _ (by omega) (fun f n hn => ?_) (fun f => ?_)
    · rw [s_X_above_29]
      unfold b_X_above_29
      have b1 := hi_b hW hn (y := y) (by omega)
      have b2 := hi_b hW hx (y := y) (by omega)
      have sm := sM_256 hW
      rw [c_24 hc, wf_A hW, if_neg (nI_ge hn (by omega)), isIn_s h3 (by omega) (by omega), sM_tb w hn, rk_in (by omega) (by decide), rk_in (by omega) (by decide), nI_clamp (by omega), nI_clamp (by omega), h3.1 n hn, h3.1 x hx, nI_add, nI_add, fo_s]
      simp only [b01_if]
      have e1 := iI_le (a := hi w y x) (b := hi w y n) (by omega) (by omega) (by omega) (by omega)
      cases st w n
      · rfl
      · by_cases c : hi w y x ≤ hi w y n
        · rw [if_pos rfl, if_pos (e1.mpr c), decide_eq_false (by omega)]
          rfl
        · rw [if_pos rfl, if_neg (fun z => c (e1.mp z)), decide_eq_true (by omega)]
          rfl
    · rw [s_X_above_29]
      unfold b_X_above_29
      rw [c_24 hc, wf_A hW, if_pos (nI_le (Nat.le_refl _) (by omega))]
theorem m_above (hF : 100 ≤ F) (hW : WF (D 117)) (a b : Int32) : ∃ D1, g_M_above F a b D = some (if askS (D 117) a b then nI (abv (D 117) b.toNatClampNeg a.toNatClampNeg) else -2, D1) ∧ FM D D1 := by
  have h8 := wf_A8 hW
  unfold g_M_above
  rw [M_isSitter_s hW, ob_some]
  simp only [b01_if]
  show ∃ D1, (if askS (D 117) a b = true then _ else _) = _ ∧ _
  cases hq : askS (D 117) a b
  · exact ⟨_, rfl, FM_r D⟩
  · obtain ⟨x, y, rfl, hx, rfl, hy, hs, -⟩ := askS_t hW hq
    obtain ⟨D1, h1, h2, h3⟩ := M_lay_s hF hW y
    have e := h2 117 (by decide)
    have hw : WF (D1 117) := by rw [e]; exact hW
    rw [if_pos rfl, if_pos rfl, nI_clamp (by omega), nI_clamp (by omega), h1, ob_some]
    refine ⟨D1, ?_, FM_123 h2⟩
    unfold abv
    refine lu0 (fun f n => g_M_above_22 F f (nI x) (nI (fo (fun z k => k + (if st (D 117) z && decide (hi (D 117) y z < hi (D 117) y x) then 1 else 0)) 0 n)) (nI n) D1) (n := nA (D 117)) _ (by omega) (fun f n hn => ?_) (fun f => ?_)
    · rw [s_M_above_22]
      unfold b_M_above_22
      have b1 := hi_b hW hn (y := y) (by omega)
      have b2 := hi_b hW hx (y := y) (by omega)
      rw [wf_A hw, e, if_neg (nI_ge hn (by omega)), M_sits_s D1 (by omega), ob_some, e, rk_in (by omega) (by decide), rk_in (by omega) (by decide), nI_clamp (by omega), nI_clamp (by omega), h3 n hn, h3 x hx, nI_add, nI_add, nI_add, fo_s]
      simp only [b01_if]
      have e1 := iI_le (a := hi (D 117) y x) (b := hi (D 117) y n) (by omega) (by omega) (by omega) (by omega)
      cases st (D 117) n
      · rfl
      · by_cases c : hi (D 117) y x ≤ hi (D 117) y n
        · rw [if_pos rfl, if_pos (e1.mpr c), decide_eq_false (by omega)]
          rfl
        · rw [if_pos rfl, if_neg (fun z => c (e1.mp z)), decide_eq_true (by omega)]
          rfl
    · rw [s_M_above_22]
      unfold b_M_above_22
      rw [wf_A hw, e, if_pos (nI_le (Nat.le_refl _) (by omega))]
/-! sets within sets -/
theorem nand_0 {a b : Nat} : nand a b = 0 ↔ ∀ i, a.testBit i = true → b.testBit i = true := by
  constructor
  · intro h i hi
    have := nand_tb a b i
    rw [h, Nat.zero_testBit, hi, Bool.true_and] at this
    cases hb : b.testBit i
    · rw [hb] at this
      cases this
    · rfl
  · intro h
    apply Nat.eq_of_testBit_eq
    intro i
    rw [Nat.zero_testBit, nand_tb]
    cases ha : a.testBit i
    · rfl
    · rw [h i ha]
      rfl
theorem bc_sub {a b : Nat} (h : ∀ i, a.testBit i = true → b.testBit i = true) : ∀ n, fo (fun x s => s + (if a.testBit x then 1 else 0)) 0 n ≤ fo (fun x s => s + (if b.testBit x then 1 else 0)) 0 n ∧ (fo (fun x s => s + (if a.testBit x then 1 else 0)) 0 n = fo (fun x s => s + (if b.testBit x then 1 else 0)) 0 n → ∀ i, i < n → a.testBit i = b.testBit i)
  | 0 => ⟨Nat.le_refl _, fun _ i hi => absurd hi (Nat.not_lt_zero i)⟩
  | n + 1 => by
    obtain ⟨h1, h2⟩ := bc_sub h n
    rw [fo_s, fo_s]
    have hn := h n
    cases ha : a.testBit n
    · cases hb : b.testBit n
      · refine ⟨by simpa using h1, fun e i hi => ?_⟩
        rcases Nat.lt_or_ge i n with q | q
        · exact h2 (by simpa using e) i q
        · obtain rfl : i = n := by omega
          rw [ha, hb]
      · rw [if_neg (by decide), if_pos rfl]
        exact ⟨by omega, fun e => by omega⟩
    · rw [hn ha, if_pos rfl]
      refine ⟨by omega, fun e i hi => ?_⟩
      rcases Nat.lt_or_ge i n with q | q
      · exact h2 (by omega) i q
      · obtain rfl : i = n := by omega
        rw [ha, hn ha]
theorem bc_lt {a b : Nat} (hb : b < 256) (h : ∀ i, a.testBit i = true → b.testBit i = true) (hne : a ≠ b) : bc a < bc b := by
  obtain ⟨h1, h2⟩ := bc_sub h 8
  rcases Nat.lt_or_ge (bc a) (bc b) with q | q
  · exact q
  · exfalso
    apply hne
    apply Nat.eq_of_testBit_eq
    intro i
    rcases Nat.lt_or_ge i 8 with q2 | q2
    · exact h2 (Nat.le_antisymm h1 q) i q2
    · cases ha : a.testBit i
      · cases hb2 : b.testBit i
        · rfl
        · have := tb_8 hb hb2
          omega
      · rw [h i ha]
theorem nand_256 {a b : Nat} (h : a < 256) : nand a b < 256 := by
  apply Nat.lt_pow_two_of_testBit (n := 8)
  intro i hi
  rw [nand_tb]
  cases ha : a.testBit i
  · rfl
  · have := tb_8 h ha
    omega
theorem sub_nand {a b n : Nat} (h : sub a n) : sub (nand a b) n := fun x hx => by
  rw [nand_tb, Bool.and_eq_true] at hx
  exact h x hx.1
/-- who stays away -/
def awq (w : W_) (y s b : Nat) : Bool := decide (nand s (sM w) = 0) && decide (bc s < bc b) && decide (apa (hi w y) (pM w) (ba w) (nand (sM w) s) ≤ nV w)
def awf (w : W_) (y : Nat) : Nat → Nat := fo (fun s b => if awq w y s b = true then s else b) (sM w)
theorem awf_i (w : W_) (y : Nat) : ∀ n, n ≤ sM w → awf w y n = sM w ∨ (awf w y n < n ∧ bc (awf w y n) < bc (sM w))
  | 0, _ => Or.inl rfl
  | n + 1, hn => by
    have ih := awf_i w y n (by omega)
    have e : awf w y (n + 1) = if awq w y n (awf w y n) = true then n else awf w y n := rfl
    rw [e]
    by_cases h : awq w y n (awf w y n) = true
    · rw [if_pos h]
      unfold awq at h
      simp only [Bool.and_eq_true, decide_eq_true_eq] at h
      rcases ih with q | ⟨q1, q2⟩
      · rw [q] at h
        exact Or.inr ⟨by omega, h.1.2⟩
      · exact Or.inr ⟨by omega, by omega⟩
    · rw [if_neg h]
      rcases ih with q | ⟨q1, q2⟩
      · exact Or.inl q
      · exact Or.inr ⟨by omega, q2⟩
theorem awf_256 (hW : WF w) (y : Nat) {n : Nat} (hn : n ≤ sM w) : awf w y n < 256 := by
  have := sM_256 hW
  rcases awf_i w y n hn with q | q
  · omega
  · omega
theorem awf_last (hW : WF w) (y : Nat) : awf w y (sM w + 1) = awf w y (sM w) := by
  have e : awf w y (sM w + 1) = if awq w y (sM w) (awf w y (sM w)) = true then sM w else awf w y (sM w) := rfl
  rw [e, if_neg]
  intro h
  unfold awq at h
  simp only [Bool.and_eq_true, decide_eq_true_eq] at h
  rcases awf_i w y (sM w) (Nat.le_refl _) with q | q
  · rw [q] at h
    omega
  · omega
theorem x_awayIn (hF : 1000 ≤ F) (hC : CC D w) (hW : WF w) {y : Nat} (hy : y ≤ 30) : ∃ D1, g_X_stayingAwayIn F (nI y) D = some (nI (awf w y (sM w)), D1) ∧ FX D D1 := by
  have h8 := wf_A8 hW
  have hv := wf_V30 hW
  have sm := sM_256 hW
  obtain ⟨D1, h1, h2, h3⟩ := H_take_s (F := F) (by omega) hC hW y
  unfold g_X_stayingAwayIn
  rw [h1, ob_some, h3.2.2.1]
  refine ⟨D1, ?_, FX_h h2⟩
  have hc : CC D1 w := CC_of hC (fun c hc => h2 c (by omega))
  refine lu0 (fun f s => g_X_stayingAwayIn_22 F f (nI (awf w y s)) (nI s) D1) (n := sM w) _ (by omega) (fun f s hs => ?_) (fun f => ?_)
  · rw [s_X_stayingAwayIn_22]
    unfold b_X_stayingAwayIn_22
    have hb := awf_256 hW y (n := s) (by omega)
    have e : awf w y (s + 1) = if awq w y s (awf w y s) = true then s else awf w y s := rfl
    have hu := apa_b (hs := hi w y) (pm := pM w) (b := ba w) h8 (sub_nand (b := s) (sub_sM w)) (hi_r hW hy)
    have hlt := iI_lt (a := (nV w : Int)) (b := apa (hi w y) (pM w) (ba w) (nand (sM w) s)) (by omega) (by omega) (by omega) (by omega)
    have n1 := nand_256 (a := s) (b := sM w) (by omega)
    rw [h3.2.2.1, if_neg (nI_ge hs (by omega)), nb_not, nb_not, bitC _ hb, bitC _ (by omega), nI_add, H_apart_s (by omega) h8 h3 (hi_r hW hy) (sub_nand (sub_sM w)), ob_some, c_2 hc, wf_V hW, e, iI_nI (nV w)]
    unfold awq
    by_cases c1 : nand s (sM w) = 0
    · rw [if_pos (by rw [c1]; rfl), decide_eq_true c1, Bool.true_and]
      have q1 := bc_8 _ hb
      have q2 := bc_8 s (by omega)
      by_cases c2 : bc s < bc (awf w y s)
      · rw [if_neg (nI_ge c2 (by omega)), decide_eq_true c2, Bool.true_and]
        by_cases c3 : apa (hi w y) (pM w) (ba w) (nand (sM w) s) ≤ (nV w : Int)
        · rw [if_neg (fun z => by have := hlt.mp z; omega), decide_eq_true c3, if_pos rfl]
        · rw [if_pos (hlt.mpr (by omega)), decide_eq_false c3, if_neg (by decide)]
      · rw [if_pos (nI_le (by omega) (by omega)), decide_eq_false c2, Bool.false_and, if_neg (by decide)]
    · rw [if_neg (fun z => c1 ((nI_z _ (by omega)).mp z)), decide_eq_false c1, Bool.false_and, Bool.false_and, if_neg (by decide)]
  · rw [s_X_stayingAwayIn_22]
    unfold b_X_stayingAwayIn_22
    rw [h3.2.2.1, if_pos (nI_le (Nat.le_refl _) (by omega))]
theorem m_awayIn (hF : 1000 ≤ F) (hW : WF (D 117)) {y : Nat} (hy : y ≤ 30) : ∃ D1, g_M_awayIn F (nI y) D = some (nI (awf (D 117) y (sM (D 117))), D1) ∧ FM D D1 := by
  have h8 := wf_A8 hW
  have hv := wf_V30 hW
  have sm := sM_256 hW
  obtain ⟨D1, h1, h2, h3⟩ := M_lay_s (F := F) (by omega) hW y
  have ew := h2 117 (by decide)
  have hw : WF (D1 117) := by rw [ew]; exact hW
  unfold g_M_awayIn
  rw [h1, ob_some, M_sitters_s (by omega) hw, ob_some, ew]
  refine ⟨D1, ?_, FM_123 h2⟩
  have hun : ∀ m, sub m (nA (D 117)) → g_M_unlevel F D1 (nI m) = some (iI (apa (hi (D 117) y) (pM (D 117)) (ba (D 117)) m)) := fun m hm => by
    have := M_unlevel_s (F := F) (by omega) hw (hs := hi (D 117) y) (by rw [ew]; exact h3) (by rw [ew]; exact hi_r hW hy) (m := m) (by rw [ew]; exact hm)
    rw [ew] at this
    exact this
  rw [← awf_last hW]
  refine lu0 (fun f s => g_M_awayIn_15 F f (nI (sM (D 117))) (nI (awf (D 117) y s)) (nI s) D1) (n := sM (D 117) + 1) _ (by omega) (fun f s hs => ?_) (fun f => ?_)
  · rw [s_M_awayIn_15]
    unfold b_M_awayIn_15
    have hb := awf_256 hW y (n := s) (by omega)
    have e : awf (D 117) y (s + 1) = if awq (D 117) y s (awf (D 117) y s) = true then s else awf (D 117) y s := rfl
    have hu := apa_b (hs := hi (D 117) y) (pm := pM (D 117)) (b := ba (D 117)) h8 (sub_nand (b := s) (sub_sM (D 117))) (hi_r hW hy)
    have hlt := iI_lt (a := (nV (D 117) : Int)) (b := apa (hi (D 117) y) (pM (D 117)) (ba (D 117)) (nand (sM (D 117)) s)) (by omega) (by omega) (by omega) (by omega)
    have n1 := nand_256 (a := s) (b := sM (D 117)) (by omega)
    have e60 : b_M_awayIn_60 F (g_M_awayIn_15 F f) (nI (sM (D 117))) (nI (awf (D 117) y s)) (nI s) D1 = if decide (apa (hi (D 117) y) (pM (D 117)) (ba (D 117)) (nand (sM (D 117)) s) ≤ nV (D 117)) = true then g_M_awayIn_15 F f (nI (sM (D 117))) (nI s) (nI (s + 1)) D1 else g_M_awayIn_15 F f (nI (sM (D 117))) (nI (awf (D 117) y s)) (nI (s + 1)) D1 := by
      unfold b_M_awayIn_60
      rw [nb_not, hun _ (sub_nand (sub_sM (D 117))), ob_some, wf_V hw, ew, iI_nI (nV (D 117)), nI_add]
      by_cases c3 : apa (hi (D 117) y) (pM (D 117)) (ba (D 117)) (nand (sM (D 117)) s) ≤ (nV (D 117) : Int)
      · rw [if_neg (fun z => by have := hlt.mp z; omega), decide_eq_true c3, if_pos rfl]
      · rw [if_pos (hlt.mpr (by omega)), decide_eq_false c3, if_neg (by decide)]
    rw [if_neg (nI_nlt (by omega) (by omega)), nb_not, M_bits_s (by omega) (by omega), M_bits_s (by omega) hb, ob_some, ob_some, ob_some, ob_some, e60, e, nI_add]
    unfold awq
    by_cases c1 : nand s (sM (D 117)) = 0
    · rw [if_pos (by rw [c1]; rfl), decide_eq_true c1, Bool.true_and]
      have q1 := bc_8 _ hb
      have q2 := bc_8 s (by omega)
      by_cases c2 : bc s < bc (awf (D 117) y s)
      · rw [if_pos (nI_lt c2 (by omega)), decide_eq_true c2, Bool.true_and]
        split <;> rfl
      · rw [if_neg (nI_nlt (by omega) (by omega)), decide_eq_false c2, Bool.false_and, if_neg (show ¬ false = true by decide)]
        by_cases c4 : bc s = bc (awf (D 117) y s)
        · have hle : nI (awf (D 117) y s) ≤ nI s := by
            rcases awf_i (D 117) y s (by omega) with q | q
            · by_cases q5 : s = sM (D 117)
              · rw [q, q5]
                exact nI_le (Nat.le_refl _) (by omega)
              · exfalso
                have := bc_lt sm (nand_0.mp c1) q5
                rw [q] at c4
                omega
            · exact nI_le (by omega) (by omega)
          rw [if_pos (show nI (bc s) = nI (bc (awf (D 117) y s)) by rw [c4]), if_pos hle]
        · rw [if_neg (fun z => c4 ((nI_eq (by omega) (by omega)).mp z))]
    · rw [if_neg (fun z => c1 ((nI_z _ (by omega)).mp z)), decide_eq_false c1, Bool.false_and, Bool.false_and, if_neg (by decide)]
  · rw [s_M_awayIn_15]
    unfold b_M_awayIn_15
    rw [if_pos (nI_lt (by omega) (by omega))]
theorem x_away (hF : 1000 ≤ F) (hC : CC D w) (hW : WF w) (a : Int32) : ∃ D1, g_X_away F a D = some (if decide (0 < nP w) && vx a 31 then nI (bc (awf w a.toNatClampNeg (sM w))) else -2, D1) ∧ FX D D1 := by
  unfold g_X_away
  rw [X_canAsk_s hC hW]
  simp only [b01_if]
  rcases vx_c a 31 (by decide) with h | ⟨y, hy, rfl⟩
  · rw [h, Bool.and_false]
    exact ⟨_, rfl, FX_r D⟩
  · rw [vx_nI (by omega), decide_eq_true hy, Bool.and_true]
    cases decide (0 < nP w)
    · exact ⟨_, rfl, FX_r D⟩
    · obtain ⟨D1, h1, h2⟩ := x_awayIn hF hC hW (y := y) (by omega)
      rw [if_pos rfl, if_pos rfl, h1, ob_some, nI_clamp (by omega), bitC _ (awf_256 hW y (Nat.le_refl _))]
      exact ⟨D1, rfl, h2⟩
theorem m_away (hF : 1000 ≤ F) (hW : WF (D 117)) (a : Int32) : ∃ D1, g_M_away F a D = some (if decide (0 < nP (D 117)) && vx a 31 then nI (bc (awf (D 117) a.toNatClampNeg (sM (D 117)))) else -2, D1) ∧ FM D D1 := by
  unfold g_M_away
  rw [M_isYear_s hW]
  simp only [b01_if]
  rcases vx_c a 31 (by decide) with h | ⟨y, hy, rfl⟩
  · rw [h, Bool.and_false]
    exact ⟨_, rfl, FM_r D⟩
  · rw [vx_nI (by omega), decide_eq_true hy, Bool.and_true]
    cases decide (0 < nP (D 117))
    · exact ⟨_, rfl, FM_r D⟩
    · obtain ⟨D1, h1, h2⟩ := m_awayIn hF hW (y := y) (by omega)
      rw [if_pos rfl, if_pos rfl, h1, ob_some, nI_clamp (by omega), M_bits_s (by omega) (awf_256 hW y (Nat.le_refl _)), ob_some]
      exact ⟨D1, rfl, h2⟩
theorem x_stay (hF : 1000 ≤ F) (hC : CC D w) (hW : WF w) (a : Int32) : ∃ D1, g_X_stay F a D = some (if decide (0 < nP w) && vx a 31 then nI (awf w a.toNatClampNeg (sM w)) else -2, D1) ∧ FX D D1 := by
  unfold g_X_stay
  rw [X_canAsk_s hC hW]
  simp only [b01_if]
  rcases vx_c a 31 (by decide) with h | ⟨y, hy, rfl⟩
  · rw [h, Bool.and_false]
    exact ⟨_, rfl, FX_r D⟩
  · rw [vx_nI (by omega), decide_eq_true hy, Bool.and_true]
    cases decide (0 < nP w)
    · exact ⟨_, rfl, FX_r D⟩
    · obtain ⟨D1, h1, h2⟩ := x_awayIn hF hC hW (y := y) (by omega)
      rw [if_pos rfl, if_pos rfl, h1, ob_some, nI_clamp (by omega)]
      exact ⟨D1, rfl, h2⟩
theorem m_stay (hF : 1000 ≤ F) (hW : WF (D 117)) (a : Int32) : ∃ D1, g_M_stay F a D = some (if decide (0 < nP (D 117)) && vx a 31 then nI (awf (D 117) a.toNatClampNeg (sM (D 117))) else -2, D1) ∧ FM D D1 := by
  unfold g_M_stay
  rw [M_isYear_s hW]
  simp only [b01_if]
  rcases vx_c a 31 (by decide) with h | ⟨y, hy, rfl⟩
  · rw [h, Bool.and_false]
    exact ⟨_, rfl, FM_r D⟩
  · rw [vx_nI (by omega), decide_eq_true hy, Bool.and_true]
    cases decide (0 < nP (D 117))
    · exact ⟨_, rfl, FM_r D⟩
    · obtain ⟨D1, h1, h2⟩ := m_awayIn hF hW (y := y) (by omega)
      rw [if_pos rfl, if_pos rfl, h1, ob_some, nI_clamp (by omega)]
      exact ⟨D1, rfl, h2⟩
/-! one is higher or lower by so much -/
def hsx (hs : Nat → Int) (x : Nat) (d : Int) : Nat → Int := fun z => if z = x then hs z + d else hs z
def lvb (w : W_) (y x : Nat) (d : Int) : Bool := decide (apa (hsx (hi w y) x d) (pM w) (ba w) (sM w) ≤ nV w)
theorem hsx_r (hW : WF w) {y : Nat} (hy : y ≤ 30) (x : Nat) {d : Int} (hd : -1000 ≤ d ∧ d ≤ 1000) : ∀ z, z < nA w → -10000 < hsx (hi w y) x d z ∧ hsx (hi w y) x d z < 10000 := fun z hz => by
  have := hi_b hW hz hy
  unfold hsx
  split <;> omega
theorem HT_x {n : Nat} {hs : Nat → Int} {pm : Nat → Nat} {sm : Nat} {b : Bool} {x : Nat} {d : Int} (e : Int) (hT : HT D n (hsx hs x d) pm sm b) (hx : x < n) : HT (sD D 35 x (iI (hs x + e))) n (hsx hs x e) pm sm b := by
  refine ⟨fun z hz => ?_, fun p hp => ?_, ?_, ?_⟩
  · by_cases q : z = x
    · subst q
      rw [sD_eq]
      unfold hsx
      rw [if_pos rfl]
    · rw [sD_nj _ _ _ q, hT.1 z hz]
      unfold hsx
      rw [if_neg q, if_neg q]
  · rw [sD_ne _ _ _ _ (by decide)]
    exact hT.2.1 p hp
  · rw [sD_ne _ _ _ _ (by decide)]
    exact hT.2.2.1
  · rw [sD_ne _ _ _ _ (by decide)]
    exact hT.2.2.2
theorem HT_0 {n : Nat} {hs : Nat → Int} {pm : Nat → Nat} {sm : Nat} {b : Bool} (x : Nat) (hT : HT D n hs pm sm b) : HT D n (hsx hs x 0) pm sm b := by
  refine ⟨fun z hz => ?_, hT.2⟩
  rw [hT.1 z hz]
  unfold hsx
  split
  · rw [Int.add_zero]
  · rfl
theorem lvb_s (hF : 100 ≤ F) (hC : CC D w) (hW : WF w) {y x : Nat} (hy : y ≤ 30) {d : Int} (hd : -1000 ≤ d ∧ d ≤ 1000) (hT : HT D (nA w) (hsx (hi w y) x d) (pM w) (sM w) (ba w)) : g_X_allAreLevel F D = some (b01 (lvb w y x d)) :=
  X_allAreLevel_s hF hC hW (wf_A8 hW) hT (hsx_r hW hy x hd) (sub_sM w)
theorem x_stilts (hF : 1000 ≤ F) (hC : CC D w) (hW : WF w) (a b : Int32) : ∃ D1, g_X_stilts F a b D = some (if askS w a b then ff (fun n => lvb w b.toNatClampNeg a.toNatClampNeg n) 100 0 else -2, D1) ∧ FX D D1 := by
  have h8 := wf_A8 hW
  unfold g_X_stilts
  rw [X_canAskOf_s hC hW, ob_some]
  simp only [b01_if]
  show ∃ D1, (if askS w a b = true then _ else _) = _ ∧ _
  cases hq : askS w a b
  · exact ⟨_, rfl, FX_r D⟩
  · obtain ⟨x, y, rfl, hx, rfl, hy, hs, -⟩ := askS_t hW hq
    obtain ⟨D1, h1, h2, h3⟩ := H_take_s (F := F) (by omega) hC hW y
    rw [if_pos rfl, if_pos rfl, nI_clamp (by omega), nI_clamp (by omega), h1, ob_some]
    have key : ∀ (k f n : Nat) (s : mx_D), n + k = 100 → k < f → (FX D s ∧ HT s (nA w) (hsx (hi w y) x n) (pM w) (sM w) (ba w)) → ∃ D1, g_X_stilts_26 F f (nI x) (nI n) s = some (ff (fun n => lvb w y x n) k n, D1) ∧ FX D D1 := by
      intro k
      induction k with
      | zero =>
        intro f n s hn hf hI
        obtain ⟨f, rfl⟩ : ∃ g, f = g + 1 := ⟨f - 1, by omega⟩
        obtain rfl : n = 100 := by omega
        rw [s_X_stilts_26]
        unfold b_X_stilts_26
        rw [if_pos (by decide)]
        exact ⟨_, rfl, hI.1⟩
      | succ k ih =>
        intro f n s hn hf hI
        obtain ⟨f, rfl⟩ : ∃ g, f = g + 1 := ⟨f - 1, by omega⟩
        have hc : CC s w := CC_of hC (fun c hc => hI.1 c (by omega))
        rw [s_X_stilts_26]
        unfold b_X_stilts_26
        rw [if_neg (nI_nlt (by omega) (by omega)), lvb_s (by omega) hc hW (by omega) (by omega) hI.2, ob_some, rk_in (by omega) (by decide), rk_in (by omega) (by decide), nI_clamp (by omega), hI.2.1 x hx, nI_add]
        simp only [b01_if]
        have e : ff (fun n => lvb w y x n) (k + 1) n = if lvb w y x n = true then nI n else ff (fun n => lvb w y x n) k (n + 1) := rfl
        rw [e]
        cases lvb w y x n
        · refine ih f (n + 1) _ (by omega) (by omega) ⟨FX_t hI.1 (fun c hc => sD_nr _ _ _ (by omega)), ?_⟩
          have e2 : hsx (hi w y) x n x = hi w y x + n := by unfold hsx; rw [if_pos rfl]
          rw [e2, iI_nI 1, iI_add]
          have := HT_x (D := s) (hs := hi w y) (x := x) (d := n) ((n : Int) + 1) hI.2 hx
          rw [show hi w y x + (n : Int) + ((1 : Nat) : Int) = hi w y x + ((n : Int) + 1) by omega]
          exact this
        · exact ⟨s, rfl, hI.1⟩
    exact key 100 F 0 D1 (by omega) (by omega) ⟨FX_h h2, HT_0 x h3⟩
theorem m_isLevelBy (hF : 1000 ≤ F) (hW : WF (D 117)) {x y : Nat} (hx : x < nA (D 117)) (hy : y ≤ 30) {d : Nat} (hd : d ≤ 100) : ∃ D1, g_M_isLevelBy F (nI x) (nI y) (nI d) D = some (b01 (lvb (D 117) y x d), D1) ∧ FM D D1 := by
  have h8 := wf_A8 hW
  have hv := wf_V30 hW
  obtain ⟨D1, h1, h2, h3⟩ := M_lay_s (F := F) (by omega) hW y
  have e := h2 117 (by decide)
  have hr := hsx_r hW hy x (d := d) (by omega)
  have hu := apa_b (hs := hsx (hi (D 117) y) x d) (pm := pM (D 117)) (b := ba (D 117)) h8 (sub_sM (D 117)) hr
  have hlt := iI_lt (a := (nV (D 117) : Int)) (b := apa (hsx (hi (D 117) y) x d) (pM (D 117)) (ba (D 117)) (sM (D 117))) (by omega) (by omega) (by omega) (by omega)
  unfold g_M_isLevelBy
  rw [h1, ob_some, rk_in (by omega) (by decide), rk_in (by omega) (by decide), nI_clamp (by omega), h3 x hx, iI_nI d, iI_add]
  have e2 : sD D1 123 x (iI (hi (D 117) y x + d)) 117 = D 117 := by rw [sD_nr _ _ _ (by decide), e]
  have hw : WF (sD D1 123 x (iI (hi (D 117) y x + d)) 117) := by rw [e2]; exact hW
  have hh : ∀ z, z < nA (D 117) → sD D1 123 x (iI (hi (D 117) y x + d)) 123 z = iI (hsx (hi (D 117) y) x d z) := fun z hz => by
    unfold hsx
    by_cases q : z = x
    · subst q
      rw [sD_eq, if_pos rfl]
    · rw [sD_nj _ _ _ q, h3 z hz, if_neg q]
  rw [M_sitters_s (by omega) hw, ob_some, M_unlevel_s (by omega) hw (hs := hsx (hi (D 117) y) x d) (by rw [e2]; exact hh) (by rw [e2]; exact hr) (sub_sM _), ob_some, wf_V hw, e2, iI_nI (nV (D 117))]
  refine ⟨sD D1 123 x (iI (hi (D 117) y x + d)), ?_, FM_t (FM_123 h2) (FM_123 (fun c hc => sD_nr _ _ _ hc))⟩
  unfold lvb
  by_cases hc : apa (hsx (hi (D 117) y) x d) (pM (D 117)) (ba (D 117)) (sM (D 117)) ≤ (nV (D 117) : Int)
  · rw [if_neg (fun q => by have := hlt.mp q; omega), decide_eq_true hc]
    rfl
  · rw [if_pos (hlt.mpr (by omega)), decide_eq_false hc]
    rfl
theorem m_stilts (hF : 1000 ≤ F) (hW : WF (D 117)) (a b : Int32) : ∃ D1, g_M_stilts F a b D = some (if askS (D 117) a b then ff (fun n => lvb (D 117) b.toNatClampNeg a.toNatClampNeg n) 100 0 else -2, D1) ∧ FM D D1 := by
  have h8 := wf_A8 hW
  unfold g_M_stilts
  rw [M_isSitter_s hW, ob_some]
  simp only [b01_if]
  show ∃ D1, (if askS (D 117) a b = true then _ else _) = _ ∧ _
  cases hq : askS (D 117) a b
  · exact ⟨_, rfl, FM_r D⟩
  · obtain ⟨x, y, rfl, hx, rfl, hy, hs, -⟩ := askS_t hW hq
    rw [if_pos rfl, if_pos rfl, nI_clamp (by omega), nI_clamp (by omega)]
    have key : ∀ (k f n : Nat) (s : mx_D), n + k = 100 → k < f → FM D s → ∃ D1, g_M_stilts_14 F f (nI x) (nI y) (nI n) s = some (ff (fun n => lvb (D 117) y x n) k n, D1) ∧ FM D D1 := by
      intro k
      induction k with
      | zero =>
        intro f n s hn hf hI
        obtain ⟨f, rfl⟩ : ∃ g, f = g + 1 := ⟨f - 1, by omega⟩
        obtain rfl : n = 100 := by omega
        rw [s_M_stilts_14]
        unfold b_M_stilts_14
        rw [if_pos (by decide)]
        exact ⟨_, rfl, hI⟩
      | succ k ih =>
        intro f n s hn hf hI
        obtain ⟨f, rfl⟩ : ∃ g, f = g + 1 := ⟨f - 1, by omega⟩
        have ew := hI.2.1.1
        have hw : WF (s 117) := by rw [ew]; exact hW
        obtain ⟨D1, h1, h2⟩ := m_isLevelBy hF hw (x := x) (y := y) (by rw [ew]; exact hx) (by omega) (d := n) (by omega)
        rw [s_M_stilts_14]
        unfold b_M_stilts_14
        rw [if_neg (nI_ge (by omega) (by omega)), h1, ob_some, ew, nI_add]
        simp only [b01_if]
        have e : ff (fun n => lvb (D 117) y x n) (k + 1) n = if lvb (D 117) y x n = true then nI n else ff (fun n => lvb (D 117) y x n) k (n + 1) := rfl
        rw [e]
        cases lvb (D 117) y x n
        · exact ih f (n + 1) D1 (by omega) (by omega) (FM_t hI h2)
        · exact ⟨D1, rfl, FM_t hI h2⟩
    exact key 100 F 0 D (by omega) (by omega) (FM_r D)
/-- how many lengths below n -/
def lnc (w : W_) (y x : Nat) : Nat → Nat := fo (fun n k => k + (if lvb w y x n then 1 else 0)) 0
theorem x_lengths (hF : 1000 ≤ F) (hC : CC D w) (hW : WF w) (a b : Int32) : ∃ D1, g_X_lengths F a b D = some (if askS w a b then nI (lnc w b.toNatClampNeg a.toNatClampNeg 100) else -2, D1) ∧ FX D D1 := by
  have h8 := wf_A8 hW
  unfold g_X_lengths
  rw [X_canAskOf_s hC hW, ob_some]
  simp only [b01_if]
  show ∃ D1, (if askS w a b = true then _ else _) = _ ∧ _
  cases hq : askS w a b
  · exact ⟨_, rfl, FX_r D⟩
  · obtain ⟨x, y, rfl, hx, rfl, hy, hs, -⟩ := askS_t hW hq
    obtain ⟨D1, h1, h2, h3⟩ := H_take_s (F := F) (by omega) hC hW y
    rw [if_pos rfl, if_pos rfl, nI_clamp (by omega), nI_clamp (by omega), h1, ob_some]
    have key := lp0 (F := F) (s := D1) (fun n s => FX D s ∧ HT s (nA w) (hsx (hi w y) x n) (pM w) (sM w) (ba w)) (fun (r : Int32 × mx_D) => r.1 = nI (lnc w y x 100) ∧ FX D r.2) (fun f n s => g_X_lengths_29 F f (nI x) (nI (lnc w y x n)) (nI n) s) (n := 100) (by omega) ⟨FX_h h2, HT_0 x h3⟩ (fun f n s hn hI => ?_) (fun f s hI => ?_)
    · obtain ⟨r, e1, e2, e3⟩ := key
      exact ⟨r.2, by rw [← e2]; exact e1, e3⟩
    · have hc : CC s w := CC_of hC (fun c hc => hI.1 c (by omega))
      refine ⟨sD s 35 x (iI (hi w y x + ((n : Int) + 1))), ⟨FX_t hI.1 (fun c hc => sD_nr _ _ _ (by omega)), HT_x (D := s) (hs := hi w y) (x := x) (d := n) ((n : Int) + 1) hI.2 hx⟩, ?_⟩
      have e46 : ∀ c, b_X_lengths_46 F (g_X_lengths_29 F f) (nI x) c (nI n) s = g_X_lengths_29 F f (nI x) c (nI (n + 1)) (sD s 35 x (iI (hi w y x + ((n : Int) + 1)))) := by
        intro c
        have e2 : hsx (hi w y) x n x = hi w y x + n := by unfold hsx; rw [if_pos rfl]
        unfold b_X_lengths_46
        rw [rk_in (by omega) (by decide), rk_in (by omega) (by decide), nI_clamp (by omega), hI.2.1 x hx, nI_add, e2, iI_nI 1, iI_add, show hi w y x + (n : Int) + ((1 : Nat) : Int) = hi w y x + ((n : Int) + 1) by omega]
      show g_X_lengths_29 F (f + 1) _ _ _ _ = _
      rw [s_X_lengths_29]
      unfold b_X_lengths_29
      rw [if_neg (nI_nlt (by omega) (by omega)), lvb_s (by omega) hc hW (by omega) (by omega) hI.2, ob_some, e46, e46, nI_add]
      simp only [b01_if]
      have e : lnc w y x (n + 1) = lnc w y x n + (if lvb w y x n then 1 else 0) := rfl
      rw [e]
      cases lvb w y x n <;> rfl
    · refine ⟨(nI (lnc w y x 100), s), ?_, rfl, hI.1⟩
      show g_X_lengths_29 F (f + 1) _ _ _ _ = _
      rw [s_X_lengths_29]
      unfold b_X_lengths_29
      rw [if_pos (by decide)]
theorem m_lengths (hF : 1000 ≤ F) (hW : WF (D 117)) (a b : Int32) : ∃ D1, g_M_lengths F a b D = some (if askS (D 117) a b then nI (lnc (D 117) b.toNatClampNeg a.toNatClampNeg 100) else -2, D1) ∧ FM D D1 := by
  have h8 := wf_A8 hW
  unfold g_M_lengths
  rw [M_isSitter_s hW, ob_some]
  simp only [b01_if]
  show ∃ D1, (if askS (D 117) a b = true then _ else _) = _ ∧ _
  cases hq : askS (D 117) a b
  · exact ⟨_, rfl, FM_r D⟩
  · obtain ⟨x, y, rfl, hx, rfl, hy, hs, -⟩ := askS_t hW hq
    rw [if_pos rfl, if_pos rfl, nI_clamp (by omega), nI_clamp (by omega)]
    have key := lp0 (F := F) (s := D) (fun n s => FM D s) (fun (r : Int32 × mx_D) => r.1 = nI (lnc (D 117) y x 100) ∧ FM D r.2) (fun f n s => g_M_lengths_17 F f (nI x) (nI y) (nI (lnc (D 117) y x n)) (nI n) s) (n := 100) (by omega) (FM_r D) (fun f n s hn hI => ?_) (fun f s hI => ?_)
    · obtain ⟨r, e1, e2, e3⟩ := key
      exact ⟨r.2, by rw [← e2]; exact e1, e3⟩
    · have ew := hI.2.1.1
      have hw : WF (s 117) := by rw [ew]; exact hW
      obtain ⟨D1, h1, h2⟩ := m_isLevelBy hF hw (x := x) (y := y) (by rw [ew]; exact hx) (by omega) (d := n) (by omega)
      refine ⟨D1, FM_t hI h2, ?_⟩
      show g_M_lengths_17 F (f + 1) _ _ _ _ _ = _
      rw [s_M_lengths_17]
      unfold b_M_lengths_17
      rw [if_neg (nI_ge (by omega) (by omega)), h1, ob_some, ew, nI_add, nI_add, nI_add]
      simp only [b01_if]
      have e : lnc (D 117) y x (n + 1) = lnc (D 117) y x n + (if lvb (D 117) y x n then 1 else 0) := rfl
      rw [e]
      cases lvb (D 117) y x n <;> rfl
    · refine ⟨(nI (lnc (D 117) y x 100), s), ?_, rfl, hI⟩
      show g_M_lengths_17 F (f + 1) _ _ _ _ _ = _
      rw [s_M_lengths_17]
      unfold b_M_lengths_17
      rw [if_pos (by decide)]
end ST
