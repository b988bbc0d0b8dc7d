/-! ===== least, of what 0 (and what it is not) ===== -/
section S3
variable {D : mx_D} {E : mx_E} {w w' : W_} {F : Nat}
def lst0 (w : W_) (a b : Int32) : Int32 := if decide (0 < nP w) && vx a 31 then (if vx b 2 then iI (apa (hi w a.toNatClampNeg) (pM w) (ba w) (sM w)) else -2) else -2
theorem x_least0 (hF : 1000 ≤ F) (hC : CC D w) (hW : WF w) (a b : Int32) (hb : b ≠ nI 1) : ∃ D1, g_X_least F a b D = some (lst0 w a b, D1) ∧ FX D D1 := by
  have h8 := wf_A8 hW
  unfold g_X_least lst0
  rw [X_canAsk_s hC hW, rng_s b (m := 1) (by decide)]
  simp only [b01_if]
  cases hq : decide (0 < nP w) && vx a 31
  · rw [if_neg (by decide), if_neg (by decide)]
    exact ⟨_, rfl, FX_r D⟩
  · simp only [Bool.and_eq_true, decide_eq_true_eq] at hq
    obtain ⟨y, hy, rfl⟩ := vx_of (by decide) hq.2
    rw [if_pos rfl, if_pos rfl, nI_clamp (by omega)]
    rcases vx_c b (1 + 1) (by decide) with h | ⟨k, hk, rfl⟩
    · rw [h, if_neg (by decide), if_neg (by decide)]
      exact ⟨_, rfl, FX_r D⟩
    · obtain ⟨D1, h1, h2, h3⟩ := H_take_s (F := F) (by omega) hC hW y
      have hk0 : k = 0 := by
        by_cases e : k = 1
        · exact absurd (by rw [e]) hb
        · omega
      subst hk0
      rw [vx_nI (by omega), decide_eq_true hk, if_pos rfl, if_pos rfl, h1, ob_some, h3.2.2.1, H_apart_s (by omega) h8 h3 (hi_r hW (show y ≤ 30 by omega)) (sub_sM w), ob_some, if_pos (show nI 0 = 0 from rfl)]
      exact ⟨D1, rfl, FX_h h2⟩
theorem m_least0 (hF : 1000 ≤ F) (hW : WF (D 117)) (a b : Int32) (hb : b ≠ nI 1) : ∃ D1, g_M_least F a b D = some (lst0 (D 117) a b, D1) ∧ FM D D1 := by
  unfold g_M_least lst0
  rw [M_isYear_s hW, M_in_i b (n := 1) (by decide)]
  simp only [b01_if]
  cases hq : decide (0 < nP (D 117)) && vx a 31
  · rw [if_neg (by decide), if_neg (by decide)]
    exact ⟨_, rfl, FM_r D⟩
  · simp only [Bool.and_eq_true, decide_eq_true_eq] at hq
    obtain ⟨y, hy, rfl⟩ := vx_of (by decide) hq.2
    rw [if_pos rfl, if_pos rfl, nI_clamp (by omega)]
    rcases vx_c b (1 + 1) (by decide) with h | ⟨k, hk, rfl⟩
    · rw [h, if_neg (by decide), if_neg (by decide)]
      exact ⟨_, rfl, FM_r D⟩
    · obtain ⟨D1, h1, h2, h3⟩ := M_lay_s (F := F) (by omega) hW y
      have e := h2 117 (by decide)
      have hw : WF (D1 117) := by rw [e]; exact hW
      have hk0 : k = 0 := by
        by_cases e : k = 1
        · exact absurd (by rw [e]) hb
        · omega
      subst hk0
      rw [vx_nI (by omega), decide_eq_true hk, if_pos rfl, if_pos rfl, h1, ob_some, if_pos (show nI 0 = 0 from rfl), M_sitters_s (by omega) hw, ob_some, M_unlevel_s (by omega) hw (hs := hi (D 117) y) (by rw [e]; exact h3) (by rw [e]; exact hi_r hW (show y ≤ 30 by omega)) (sub_sM _), ob_some, e]
      exact ⟨D1, rfl, FM_123 h2⟩
end S3
