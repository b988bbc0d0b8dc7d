/-! ===== both readers in step: words asked for ===== -/
section RW
variable {D D' : mx_D} {F : Nat}
/-- what ties both readers: faults; while there is none, the token -/
def ST (D D' : mx_D) (t : Nat) : Prop := D 3 1 = D' 116 12 ∧ D 3 2 = D' 116 13 ∧ XP D t ∧ (D' 116 12 = 0 → RTK D D' t)
def XF (D D1 : mx_D) : Prop := ∀ c, c ≠ 3 → D1 c = D c
/-- the reference's reader moves its own numbers alone, and none once a fault is found -/
def MF (D D1 : mx_D) : Prop := (∀ c, c ≠ 116 → D1 c = D c) ∧ (∀ j, j < 8 ∨ 13 < j → D1 116 j = D 116 j) ∧ (¬ D 116 12 = 0 → D1 = D)
theorem XF_t {D1 D2 : mx_D} (h : XF D D1) (h2 : XF D1 D2) : XF D D2 := fun c hc => (h2 c hc).trans (h c hc)
theorem MF_r (D : mx_D) : MF D D := ⟨fun _ _ => rfl, fun _ _ => rfl, fun _ => rfl⟩
theorem MF_t {D1 D2 : mx_D} (h : MF D D1) (h2 : MF D1 D2) : MF D D2 :=
  ⟨fun c hc => (h2.1 c hc).trans (h.1 c hc), fun j hj => (h2.2.1 j hj).trans (h.2.1 j hj), fun e => by
    have e1 := h.2.2 e
    rw [e1] at h2
    exact h2.2.2 e⟩
theorem XP_of {D1 : mx_D} {t : Nat} (h : XP D t) (e1 : ∀ c, c ≠ 3 → D1 c = D c) (e2 : ∀ j, 4 ≤ j → j ≤ 7 → D1 3 j = D 3 j) : XP D1 t := by
  obtain ⟨h1, h2, h3, p, q, k, a1, a2, a3, a4, a5, a6, a7⟩ := h
  exact ⟨h1, by rw [e1 1 (by decide)]; exact h2, by rw [e1 2 (by decide)]; exact h3, p, q, k, a1, a2, a3, by rw [e2 4 (by decide) (by decide)]; exact a4, by rw [e2 6 (by decide) (by decide)]; exact a5, by rw [e2 5 (by decide) (by decide)]; exact a6, fun e => by rw [e2 7 (by decide) (by decide)]; exact a7 e⟩
theorem is_X {w L : Nat} {c : Nat → Int32} (hw : WD w L c) (hF : 100 ≤ F) {t : Nat} (h : XP D t) : ∃ b, g_Reader_isWord F D w = some (b01 b) := by
  obtain ⟨h1, h2, h3, p, q, k, a1, a2, a3, a4, a5, a6, a7⟩ := h
  have hw' := hw
  obtain ⟨w1, w2, w3⟩ := hw
  unfold g_Reader_isWord
  split
  · rw [w2, ob_some, a4, a5, nI_subN a1]
    by_cases c2 : p - q = L
    · rw [c2, if_pos rfl, x_ws hw' (by omega) a5 L F 0 (by omega) (by omega)]
      exact ⟨_, rfl⟩
    · rw [if_neg (fun e => c2 ((nI_eq (by omega) (by omega)).mp e))]
      exact ⟨false, rfl⟩
  · exact ⟨false, rfl⟩
/-- refuse: the first fault stays -/
theorem refuse_X (D : mx_D) (a b : Int32) : (∀ c, c ≠ 3 → g_Reader_refuse a b D c = D c) ∧ (∀ j, j ≠ 1 → j ≠ 2 → g_Reader_refuse a b D 3 j = D 3 j) ∧ g_Reader_refuse a b D 3 1 = (if D 3 1 = 0 then a else D 3 1) ∧ g_Reader_refuse a b D 3 2 = if D 3 1 = 0 then b else D 3 2 := by
  unfold g_Reader_refuse
  by_cases h : D 3 1 = 0
  · rw [if_pos h, if_pos h, if_pos h]
    exact ⟨fun c hc => by rw [sD_nr _ _ _ hc, sD_nr _ _ _ hc], fun j h1 h2 => by rw [sD_nj _ _ _ h2, sD_nj _ _ _ h1], by rw [sD_nj _ _ _ (by decide), sD_eq], sD_eq _ _ _ _⟩
  · rw [if_neg h, if_neg h, if_neg h]
    exact ⟨fun _ _ => rfl, fun _ _ _ => rfl, rfl, rfl⟩
theorem errs_M (D : mx_D) (a : Int32) : (∀ c, c ≠ 116 → g_M_errs a D c = D c) ∧ (∀ j, j ≠ 12 → j ≠ 13 → g_M_errs a D 116 j = D 116 j) ∧ g_M_errs a D 116 12 = (if D 116 12 = 0 then a else D 116 12) ∧ g_M_errs a D 116 13 = (if D 116 12 = 0 then D 116 9 else D 116 13) ∧ (¬ D 116 12 = 0 → g_M_errs a D = D) := by
  unfold g_M_errs g_M_good
  by_cases h : D 116 12 = 0
  · rw [if_pos h, if_pos h, if_pos h, if_neg (show ¬ nI 1 = 0 by decide)]
    refine ⟨fun c hc => by rw [sD_nr _ _ _ hc, sD_nr _ _ _ hc], fun j h1 h2 => by rw [sD_nj _ _ _ h2, sD_nj _ _ _ h1], by rw [sD_nj _ _ _ (by decide), sD_eq], ?_, fun e => absurd h e⟩
    rw [sD_eq, sD_nj _ _ _ (by decide)]
  · rw [if_neg h, if_neg h, if_neg h, if_pos (show nI 0 = 0 from rfl)]
    exact ⟨fun _ _ => rfl, fun _ _ _ => rfl, rfl, rfl, fun _ => rfl⟩
theorem takeWord_ST {w L : Nat} {c : Nat → Int32} (hw : WD w L c) (hF : 2000 ≤ F) {t : Nat} (h : ST D D' t) : ∃ D1 D1', g_Reader_takeWord F w D = some D1 ∧ g_M_needs F w D' = some D1' ∧ ST D1 D1' t ∧ XF D D1 ∧ MF D' D1' := by
  obtain ⟨s1, s2, s3, s4⟩ := h
  unfold g_Reader_takeWord g_M_needs g_M_takes
  by_cases g : D' 116 12 = 0
  · have hR := s4 g
    obtain ⟨b, e1, e2⟩ := is_RT (F := F) hw (by omega) hR g
    rw [e1, e2, ob_some, ob_some]
    cases b
    · obtain ⟨r1, r2, r3, r4⟩ := refuse_X D (nI 1) (D 3 6)
      obtain ⟨m1, m2, m3, m4, m5⟩ := errs_M D' (nI 1)
      have hX : XP (g_Reader_refuse (nI 1) (D 3 6) D) t := XP_of s3 r1 (fun j h1 h2 => r2 j (by omega) (by omega))
      obtain ⟨D1, a1, a2, a3, a4⟩ := adv_X (F := F) hF hX
      have z : b01 false = 0 := rfl
      rw [z, if_pos rfl, if_pos rfl, show zk (0 : Int32) (some ((0 : Int32), D')) = some ((0 : Int32), D') from zk_0, a1, ob_some, ob_some]
      obtain ⟨h1, h2, h3, h4, h5, p, q, k, q1, q2, q3, q4, q5, q6, q7⟩ := hR
      rw [if_pos g] at m3 m4
      rw [if_pos (s1.trans g)] at r3 r4
      refine ⟨D1, _, rfl, if_pos rfl, ⟨?_, ?_, a2, fun e => ?_⟩, XF_t r1 a3, m1, fun j hj => m2 j (by omega) (by omega), m5⟩
      · rw [a4 1 (by decide) (by decide) (by decide) (by decide), r3, m3]
      · rw [a4 2 (by decide) (by decide) (by decide) (by decide), r4, m4, q5.1, q5.2]
      · rw [m3] at e
        exact absurd e (by decide)
    · obtain ⟨D1, D2, a1, a2, a3, ⟨a4, a5⟩, a6, a7⟩ := adv_RT hF hR
      have z : ¬ b01 true = 0 := by decide
      rw [if_neg z, if_neg z, a1, a2, ob_some, ob_some, show zk (b01 true) (some (b01 true, D2)) = some (b01 true, D2) from zk_1, ob_some]
      refine ⟨D1, D2, rfl, if_neg z, ⟨?_, ?_, RTK_X a3, fun _ => a3⟩, a4, a6, fun j hj => a7 j (by omega) (by omega) (by omega) (by omega), fun e => absurd g e⟩
      · rw [a5 1 (by decide) (by decide) (by decide) (by decide), a7 12 (by decide) (by decide) (by decide) (by decide), s1]
      · rw [a5 2 (by decide) (by decide) (by decide) (by decide), a7 13 (by decide) (by decide) (by decide) (by decide), s2]
  · obtain ⟨b, e1⟩ := is_X hw (by omega) (F := F) s3
    obtain ⟨r1, r2, r3, r4⟩ := refuse_X D (nI 1) (D 3 6)
    obtain ⟨m1, m2, m3, m4, m5⟩ := errs_M D' (nI 1)
    have hX : XP (g_Reader_refuse (nI 1) (D 3 6) D) t := XP_of s3 r1 (fun j h1 h2 => r2 j (by omega) (by omega))
    have z : b01 false = 0 := rfl
    have gx : ¬ D 3 1 = 0 := by rw [s1]; exact g
    rw [if_neg gx] at r3 r4
    rw [e1, is_bad hw (by omega) g, ob_some, ob_some, z, if_pos rfl, show zk (0 : Int32) (some ((0 : Int32), D')) = some ((0 : Int32), D') from zk_0, ob_some]
    cases b
    · obtain ⟨D1, a1, a2, a3, a4⟩ := adv_X (F := F) hF hX
      rw [z, if_pos rfl, a1, ob_some]
      refine ⟨D1, D', rfl, by rw [if_pos rfl, m5 g], ⟨?_, ?_, a2, fun e => absurd e g⟩, XF_t r1 a3, MF_r D'⟩
      · rw [a4 1 (by decide) (by decide) (by decide) (by decide), r3, s1]
      · rw [a4 2 (by decide) (by decide) (by decide) (by decide), r4, s2]
    · obtain ⟨D1, a1, a2, a3, a4⟩ := adv_X (F := F) hF s3
      rw [if_neg (show ¬ b01 true = 0 by decide), a1, ob_some]
      refine ⟨D1, D', rfl, by rw [if_pos rfl, m5 g], ⟨?_, ?_, a2, fun e => absurd e g⟩, a3, MF_r D'⟩
      · rw [a4 1 (by decide) (by decide) (by decide) (by decide), s1]
      · rw [a4 2 (by decide) (by decide) (by decide) (by decide), s2]
end RW
