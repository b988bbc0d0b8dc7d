/-! ===== both readers in step: numbers asked for ===== -/
section RN
variable {D D' : mx_D} {F : Nat}
theorem in_ii (a b c : Int32) : g_M_in a.toInt64 b.toInt64 c.toInt64 = b01 (decide (b ≤ a) && decide (a ≤ c)) := by
  rw [M_in_s, Int32.toInt_toInt64, Int32.toInt_toInt64, Int32.toInt_toInt64]
  simp only [Int32.le_iff_toInt_le]
/-- a bad number or none is refused, then as the fault stands the reading goes on -/
theorem num_bad (hF : 2000 ≤ F) {t : Nat} (hX : XP D t) (a b : Int32) (g : ¬ D 3 1 = 0) : ∃ D1, g_Reader_takeNumber F a b D = some (-1, D1) ∧ XP D1 t ∧ XF D D1 ∧ D1 3 1 = D 3 1 ∧ D1 3 2 = D 3 2 ∧ D1 3 8 = D 3 6 := by
  have fin : ∀ G : mx_D, (∀ c, c ≠ 3 → G c = D c) → (∀ j, G 3 j = D 3 j) → ∃ D1, b_Reader_takeNumber_45 F G = some (-1, D1) ∧ XP D1 t ∧ XF D D1 ∧ D1 3 1 = D 3 1 ∧ D1 3 2 = D 3 2 ∧ D1 3 8 = D 3 6 := fun G g1 g2 => by
    have hG : XP (sD G 3 8 (G 3 6)) t := XP_of (D := D) hX (fun c hc => by rw [sD_nr _ _ _ hc, g1 c hc]) (fun j h1 h2 => by rw [sD_nj _ _ _ (by omega), g2 j])
    obtain ⟨D1, a1, a2, a3, a4⟩ := adv_X (F := F) hF hG
    unfold b_Reader_takeNumber_45
    rw [g2 1, if_neg g, a1, ob_some]
    refine ⟨D1, rfl, a2, fun c hc => by rw [a3 c hc, sD_nr _ _ _ hc, g1 c hc], ?_, ?_, ?_⟩
    · rw [a4 1 (by decide) (by decide) (by decide) (by decide), sD_nj _ _ _ (by decide), g2]
    · rw [a4 2 (by decide) (by decide) (by decide) (by decide), sD_nj _ _ _ (by decide), g2]
    · rw [a4 8 (by decide) (by decide) (by decide) (by decide), sD_eq, g2]
  have er : ∀ x y, g_Reader_refuse x y D = D := fun x y => by
    unfold g_Reader_refuse
    rw [if_neg g]
  unfold g_Reader_takeNumber b_Reader_takeNumber_36
  rw [er, er]
  have := fin D (fun _ _ => rfl) (fun _ => rfl)
  split
  · split
    · exact this
    · split <;> exact this
  · exact this
theorem takeNumber_ST (hF : 2000 ≤ F) {t : Nat} (h : ST D D' t) (a b : Int32) (hb : b.toInt ≤ 1000) : ∃ r r' D1 D1', g_Reader_takeNumber F a b D = some (r, D1) ∧ g_M_number F a b D' = some (r', D1') ∧ ST D1 D1' t ∧ XF D D1 ∧ MF D' D1' ∧ D1 3 8 = D 3 6 ∧ (D1' 116 12 = 0 → r = r' ∧ a ≤ r ∧ r ≤ b ∧ D' 116 12 = 0 ∧ D' 116 10 = nI 2 ∧ D' 116 11 = r) ∧ (¬ D1' 116 12 = 0 → r = -1) := by
  have h0 := h
  obtain ⟨s1, s2, s3, s4⟩ := h
  by_cases g : D' 116 12 = 0
  · have gx : D 3 1 = 0 := by rw [s1]; exact g
    have hR := s4 g
    have hR' := hR
    obtain ⟨h1, h2, h3, h4, h5, p, q, k, q1, q2, q3, q4, q5, q6, q7⟩ := hR
    /- refused: with which fault -/
    have ref : ∀ n : Int32, ¬ n = 0 → ∃ D1, b_Reader_takeNumber_45 F (g_Reader_refuse n (D 3 6) D) = some (-1, D1) ∧ ST D1 (g_M_errs n D') t ∧ XF D D1 ∧ MF D' (g_M_errs n D') ∧ D1 3 8 = D 3 6 ∧ ¬ g_M_errs n D' 116 12 = 0 := fun n hn => by
      obtain ⟨r1, r2, r3, r4⟩ := refuse_X D n (D 3 6)
      obtain ⟨m1, m2, m3, m4, m5⟩ := errs_M D' n
      rw [if_pos g] at m3 m4
      rw [if_pos gx] at r3 r4
      have hG : XP (sD (g_Reader_refuse n (D 3 6) D) 3 8 (g_Reader_refuse n (D 3 6) D 3 6)) t := XP_of (D := D) s3 (fun c hc => by rw [sD_nr _ _ _ hc, r1 c hc]) (fun j h1 h2 => by rw [sD_nj _ _ _ (by omega), r2 j (by omega) (by omega)])
      obtain ⟨D1, a1, a2, a3, a4⟩ := adv_X (F := F) hF hG
      unfold b_Reader_takeNumber_45
      rw [r3, if_neg hn, a1, ob_some]
      refine ⟨D1, rfl, ⟨?_, ?_, a2, fun e => absurd (m3 ▸ e) hn⟩, fun c hc => by rw [a3 c hc, sD_nr _ _ _ hc, r1 c hc], ⟨m1, fun j hj => m2 j (by omega) (by omega), m5⟩, ?_, by rw [m3]; exact hn⟩
      · rw [a4 1 (by decide) (by decide) (by decide) (by decide), sD_nj _ _ _ (by decide), r3, m3]
      · rw [a4 2 (by decide) (by decide) (by decide) (by decide), sD_nj _ _ _ (by decide), r4, m4, q5.1, q5.2]
      · rw [a4 8 (by decide) (by decide) (by decide) (by decide), sD_eq, r2 6 (by decide) (by decide)]
    have n47 : ∀ G : mx_D, ¬ G 116 12 = 0 → b_M_number_47 F G = some (nI 0, G) := fun G hG => by
      unfold b_M_number_47 g_M_good
      rw [if_neg hG, if_pos (show nI 0 = 0 from rfl)]
    have gg : g_M_good D' = nI 1 := by unfold g_M_good; rw [if_pos g]
    unfold g_Reader_takeNumber g_M_number b_Reader_takeNumber_36
    rw [gg, if_neg (show ¬ nI 1 = 0 by decide), q6.1, q6.2]
    by_cases c1 : nI k = nI 2
    · have k2 : k = 2 := (nI_eq (by omega) (by omega)).mp c1
      obtain ⟨v, v1, v2⟩ := q7 k2
      rw [if_pos c1, if_pos c1]
      unfold b_M_number_20
      rw [gg, if_neg (show ¬ nI 1 = 0 by decide), in_ii, b01_if]
      have t1 : (D 3 7).toInt = min 100000 v := by rw [v1, nI_toInt (by omega)]
      have t2 : (D' 116 11).toInt = min 99999 v := by rw [v2, nI_toInt (by omega)]
      by_cases ok : a ≤ D 3 7 ∧ D 3 7 ≤ b
      · have hv : v ≤ 1000 := by
          have := ok.2
          rw [Int32.le_iff_toInt_le, t1] at this
          omega
        have e11 : D' 116 11 = D 3 7 := by
          rw [v1, v2]
          congr 1
          omega
        have n1 : ¬ D 3 7 < a := by
          have := ok.1
          rw [Int32.le_iff_toInt_le] at this
          rw [Int32.lt_iff_toInt_lt]
          omega
        rw [if_neg n1, if_pos ok.2, e11, decide_eq_true ok.1, decide_eq_true ok.2, if_pos (show (true && true) = true from rfl)]
        unfold b_Reader_takeNumber_45 b_M_number_47
        have hS : RTK (sD D 3 8 (D 3 6)) D' t := by
          refine ⟨h1, by rw [sD_ne _ _ _ _ (by decide)]; exact h2, h3, fun j hj => by rw [sD_ne _ _ _ _ (by decide)]; exact h4 j hj, h5, p, q, k, q1, q2, q3, ⟨by rw [sD_nj _ _ _ (by decide)]; exact q4.1, q4.2⟩, ⟨by rw [sD_nj _ _ _ (by decide)]; exact q5.1, q5.2⟩, ⟨by rw [sD_nj _ _ _ (by decide)]; exact q6.1, q6.2⟩, fun e => ?_⟩
          rw [sD_nj _ _ _ (by decide)]
          exact q7 e
        obtain ⟨D1, D2, a1, a2, a3, ⟨a4, a5⟩, a6, a7⟩ := adv_RT hF hS
        rw [gx, if_pos rfl, a1, ob_some, gg, if_neg (show ¬ nI 1 = 0 by decide), a2, ob_some, e11]
        have z12 : D2 116 12 = D' 116 12 := a7 12 (by decide) (by decide) (by decide) (by decide)
        refine ⟨_, _, D1, D2, rfl, rfl, ⟨?_, ?_, RTK_X a3, fun _ => a3⟩, fun c hc => by rw [a4 c hc, sD_nr _ _ _ hc], ⟨a6, fun j hj => a7 j (by omega) (by omega) (by omega) (by omega), fun e => absurd g e⟩, ?_, fun _ => ⟨rfl, ok.1, ok.2, g, c1, rfl⟩, fun e => absurd (z12.trans g) e⟩
        · rw [a5 1 (by decide) (by decide) (by decide) (by decide), sD_nj _ _ _ (by decide), z12, s1]
        · rw [a5 2 (by decide) (by decide) (by decide) (by decide), sD_nj _ _ _ (by decide), a7 13 (by decide) (by decide) (by decide) (by decide), s2]
        · rw [a5 8 (by decide) (by decide) (by decide) (by decide), sD_eq]
      · obtain ⟨D1, f1, f2, f3, f4, f5, f6⟩ := ref (nI 2) (by decide)
        have nM : (decide (a ≤ D' 116 11) && decide (D' 116 11 ≤ b)) = false := by
          rw [Bool.and_eq_false_iff, decide_eq_false_iff_not, decide_eq_false_iff_not]
          rw [Int32.le_iff_toInt_le, Int32.le_iff_toInt_le, t1] at ok
          rw [Int32.le_iff_toInt_le, Int32.le_iff_toInt_le, t2]
          omega
        rw [nM, if_neg (show ¬ false = true by decide), n47 _ f6]
        have goal : ∃ r r' D1 D1', b_Reader_takeNumber_45 F (g_Reader_refuse (nI 2) (D 3 6) D) = some (r, D1) ∧ some (nI 0, g_M_errs (nI 2) D') = some (r', D1') ∧ ST D1 D1' t ∧ XF D D1 ∧ MF D' D1' ∧ D1 3 8 = D 3 6 ∧ (D1' 116 12 = 0 → r = r' ∧ a ≤ r ∧ r ≤ b ∧ D' 116 12 = 0 ∧ nI k = nI 2 ∧ D' 116 11 = r) ∧ (¬ D1' 116 12 = 0 → r = -1) :=
          ⟨_, _, D1, _, f1, rfl, f2, f3, f4, f5, fun e => absurd e f6, fun _ => rfl⟩
        split
        · exact goal
        · split
          · rename_i y1 y2
            refine absurd ⟨?_, y2⟩ ok
            rw [Int32.lt_iff_toInt_lt] at y1
            rw [Int32.le_iff_toInt_le]
            omega
          · exact goal
    · obtain ⟨D1, f1, f2, f3, f4, f5, f6⟩ := ref (nI 1) (by decide)
      rw [if_neg c1, if_neg c1, f1]
      unfold b_M_number_20
      have gb : g_M_good (g_M_errs (nI 1) D') = nI 0 := by unfold g_M_good; rw [if_neg f6]
      rw [gb, if_pos (show nI 0 = 0 from rfl), n47 _ f6]
      exact ⟨_, _, D1, _, rfl, rfl, f2, f3, f4, f5, fun e => absurd e f6, fun _ => rfl⟩
  · have gx : ¬ D 3 1 = 0 := by rw [s1]; exact g
    obtain ⟨D1, a1, a2, a3, a4, a5, a6⟩ := num_bad hF s3 a b gx
    have gb : g_M_good D' = nI 0 := by unfold g_M_good; rw [if_neg g]
    unfold g_M_number b_M_number_20 b_M_number_47
    rw [gb, if_pos (show nI 0 = 0 from rfl), if_pos (show nI 0 = 0 from rfl), if_pos (show nI 0 = 0 from rfl)]
    exact ⟨_, _, D1, D', a1, rfl, ⟨a4.trans s1, a5.trans s2, a2, fun e => absurd e g⟩, a3, MF_r D', a6, fun e => absurd e g, fun _ => rfl⟩
end RN
