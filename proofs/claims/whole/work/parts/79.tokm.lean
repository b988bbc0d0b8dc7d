/-! ===== the tokens, of the reference's reader ===== -/
section TM
variable {D : mx_D} {E : mx_E} {F : Nat}
def BY (T : Nat → Int32) (t : Nat) : Prop := ∀ j, j < t → -128 ≤ (T j).toInt ∧ (T j).toInt ≤ 127
theorem m_see {t p : Nat} (ht : t ≤ 1400) (h7 : D 116 7 = nI t) (hp : p ≤ t) : g_M_see D (nI p) = some (if t ≤ p then -1 else D 120 p &&& nI 255) := by
  unfold g_M_see
  rw [h7]
  by_cases c : t ≤ p
  · rw [if_pos (nI_le c (by omega)), if_pos c]
  · rw [if_neg (nI_ge (by omega) (by omega)), if_neg c, rk_in (show p < 1400 by omega) (by decide), nI_clamp (by omega)]
theorem in_m1 : g_M_in (-1 : Int32).toInt64 97 122 = 0 ∧ g_M_in (-1 : Int32).toInt64 48 57 = 0 := by decide
theorem m_let {t : Nat} (ht : t ≤ 1400) : ∀ (k f p : Nat) (D : mx_D), BY (D 120) t → D 116 7 = nI t → D 116 8 = nI p → p + k = t → k < f → ∃ D1, g_M_advance_83 F f D = some D1 ∧ (∀ c, c ≠ 116 → D1 c = D c) ∧ (∀ j, j ≠ 8 → j ≠ 10 → D1 116 j = D 116 j) ∧ D1 116 8 = nI (tl (D 120) k p) ∧ D1 116 10 = nI 1 := by
  intro k
  induction k with
  | zero =>
    intro f p D hB h7 h8 hp hf
    obtain ⟨f, rfl⟩ : ∃ g, f = g + 1 := ⟨f - 1, by omega⟩
    rw [s_M_advance_83]
    unfold b_M_advance_83
    rw [h8, m_see ht h7 (by omega), if_pos (show t ≤ p by omega), ob_some, if_pos in_m1.1]
    exact ⟨_, rfl, fun c hc => sD_nr _ _ _ hc, fun j _ hj => sD_nj _ _ _ hj, by rw [sD_nj _ _ _ (by decide)]; exact h8, sD_eq _ _ _ _⟩
  | succ k ih =>
    intro f p D hB h7 h8 hp hf
    obtain ⟨f, rfl⟩ : ∃ g, f = g + 1 := ⟨f - 1, by omega⟩
    have e : tl (D 120) (k + 1) p = if g_Reader_isLetter (D 120 p) = 0 then p else tl (D 120) k (p + 1) := rfl
    obtain ⟨-, -, b3, -, -⟩ := by_c (hB p (by omega))
    rw [s_M_advance_83]
    unfold b_M_advance_83
    rw [h8, m_see ht h7 (by omega), if_neg (show ¬ t ≤ p by omega), ob_some, b3, nI_add, e]
    by_cases c : g_Reader_isLetter (D 120 p) = 0
    · rw [if_pos c, if_pos c]
      exact ⟨_, rfl, fun c hc => sD_nr _ _ _ hc, fun j _ hj => sD_nj _ _ _ hj, by rw [sD_nj _ _ _ (by decide)]; exact h8, sD_eq _ _ _ _⟩
    · rw [if_neg c, if_neg c]
      have er : sD D 116 8 (nI (p + 1)) 120 = D 120 := sD_nr _ _ _ (by decide)
      obtain ⟨D1, a1, a2, a3, a4, a5⟩ := ih f (p + 1) (sD D 116 8 (nI (p + 1))) (by rw [er]; exact hB) (by rw [sD_nj _ _ _ (by decide)]; exact h7) (sD_eq _ _ _ _) (by omega) (by omega)
      rw [er] at a4
      exact ⟨D1, a1, fun c hc => by rw [a2 c hc, sD_nr _ _ _ hc], fun j hj hj2 => by rw [a3 j hj hj2, sD_nj _ _ _ hj], a4, a5⟩
theorem m_dgs {t : Nat} (ht : t ≤ 1400) : ∀ (k f p v : Nat) (D : mx_D), BY (D 120) t → D 116 7 = nI t → D 116 8 = nI p → D 116 11 = nI (min 99999 v) → p + k = t → k < f → ∃ D1, g_M_advance_144 F f D = some D1 ∧ (∀ c, c ≠ 116 → D1 c = D c) ∧ (∀ j, j ≠ 8 → j ≠ 10 → j ≠ 11 → D1 116 j = D 116 j) ∧ D1 116 8 = nI (td (D 120) k p) ∧ D1 116 10 = nI 2 ∧ D1 116 11 = nI (min 99999 (tv (D 120) k p v)) := by
  intro k
  induction k with
  | zero =>
    intro f p v D hB h7 h8 h11 hp hf
    obtain ⟨f, rfl⟩ : ∃ g, f = g + 1 := ⟨f - 1, by omega⟩
    rw [s_M_advance_144]
    unfold b_M_advance_144
    rw [h8, m_see ht h7 (by omega), if_pos (show t ≤ p by omega), ob_some, if_pos in_m1.2]
    exact ⟨_, rfl, fun c hc => sD_nr _ _ _ hc, fun j _ hj _ => sD_nj _ _ _ hj, by rw [sD_nj _ _ _ (by decide)]; exact h8, sD_eq _ _ _ _, by rw [sD_nj _ _ _ (by decide)]; exact h11⟩
  | succ k ih =>
    intro f p v D hB h7 h8 h11 hp hf
    obtain ⟨f, rfl⟩ : ∃ g, f = g + 1 := ⟨f - 1, by omega⟩
    have e : td (D 120) (k + 1) p = if g_Reader_isDigit (D 120 p) = 0 then p else td (D 120) k (p + 1) := rfl
    have e2 : tv (D 120) (k + 1) p v = if g_Reader_isDigit (D 120 p) = 0 then v else tv (D 120) k (p + 1) (10 * v + ((D 120 p).toNatClampNeg - 48)) := rfl
    obtain ⟨-, -, -, b4, b5⟩ := by_c (hB p (by omega))
    rw [s_M_advance_144]
    unfold b_M_advance_144
    rw [h8, m_see ht h7 (by omega), if_neg (show ¬ t ≤ p by omega), ob_some, b4, e, e2]
    by_cases c : g_Reader_isDigit (D 120 p) = 0
    · rw [if_pos c, if_pos c, if_pos c]
      exact ⟨_, rfl, fun c hc => sD_nr _ _ _ hc, fun j _ hj _ => sD_nj _ _ _ hj, by rw [sD_nj _ _ _ (by decide)]; exact h8, sD_eq _ _ _ _, by rw [sD_nj _ _ _ (by decide)]; exact h11⟩
    · have b6 := b5 c
      obtain ⟨d, hd, ec⟩ := dig_of c
      rw [if_neg c, if_neg c, if_neg c, ob_some, b6, sD_nj _ _ _ (show 8 ≠ 11 by decide), h8, nI_add, h11, ec, val_s (by omega) (by omega) hd, nI_clamp (by omega)]
      have er : sD (sD D 116 11 (nI (min 99999 (10 * v + d)))) 116 8 (nI (p + 1)) 120 = D 120 := by rw [sD_nr _ _ _ (by decide), sD_nr _ _ _ (by decide)]
      obtain ⟨D1, a1, a2, a3, a4, a5, a6⟩ := ih f (p + 1) (10 * v + d) (sD (sD D 116 11 (nI (min 99999 (10 * v + d)))) 116 8 (nI (p + 1))) (by rw [er]; exact hB) (by rw [sD_nj _ _ _ (by decide), sD_nj _ _ _ (by decide)]; exact h7) (sD_eq _ _ _ _) (by rw [sD_nj _ _ _ (by decide), sD_eq]) (by omega) (by omega)
      rw [er] at a4 a6
      refine ⟨D1, a1, fun c hc => by rw [a2 c hc, sD_nr _ _ _ hc, sD_nr _ _ _ hc], fun j hj hj2 hj3 => by rw [a3 j hj hj2 hj3, sD_nj _ _ _ hj, sD_nj _ _ _ hj3], a4, a5, ?_⟩
      rw [a6, show 48 + d - 48 = d by omega]
theorem m_adv (hF : 2000 ≤ F) {t p : Nat} (ht : t ≤ 1400) (hB : BY (D 120) t) (h7 : D 116 7 = nI t) (h8 : D 116 8 = nI p) (hp : p ≤ t) : ∃ D1, g_M_advance F D = some D1 ∧ (∀ c, c ≠ 116 → D1 c = D c) ∧ (∀ j, j ≠ 8 → j ≠ 9 → j ≠ 10 → j ≠ 11 → D1 116 j = D 116 j) ∧ D1 116 8 = nI (nx (D 120) t (tw (D 120) (t - p) p)) ∧ D1 116 10 = nI (kd (D 120) t (tw (D 120) (t - p) p)) ∧ D1 116 9 = nI (tw (D 120) (t - p) p) ∧ (kd (D 120) t (tw (D 120) (t - p) p) = 2 → D1 116 11 = nI (min 99999 (tv (D 120) (t - tw (D 120) (t - p) p) (tw (D 120) (t - p) p) 0))) := by
  have rest : ∀ (p : Nat) (D : mx_D), BY (D 120) t → D 116 7 = nI t → D 116 8 = nI p → p ≤ t → ∃ D1, b_M_advance_39 F D = some D1 ∧ (∀ c, c ≠ 116 → D1 c = D c) ∧ (∀ j, j ≠ 8 → j ≠ 9 → j ≠ 10 → j ≠ 11 → D1 116 j = D 116 j) ∧ D1 116 8 = nI (nx (D 120) t p) ∧ D1 116 10 = nI (kd (D 120) t p) ∧ D1 116 9 = nI p ∧ (kd (D 120) t p = 2 → D1 116 11 = nI (min 99999 (tv (D 120) (t - p) p 0))) := by
    intro p D hB h7 h8 hp
    have g7 : sD D 116 9 (D 116 8) 116 7 = nI t := by rw [sD_nj _ _ _ (by decide), h7]
    have g8 : sD D 116 9 (D 116 8) 116 8 = nI p := by rw [sD_nj _ _ _ (by decide), h8]
    have g2 : sD D 116 9 (D 116 8) 120 = D 120 := sD_nr _ _ _ (by decide)
    have g9 : sD D 116 9 (D 116 8) 116 9 = nI p := by rw [sD_eq, h8]
    have go : ∀ c, c ≠ 116 → sD D 116 9 (D 116 8) c = D c := fun c hc => sD_nr _ _ _ hc
    have gj : ∀ j, j ≠ 9 → sD D 116 9 (D 116 8) 116 j = D 116 j := fun j hj => sD_nj _ _ _ hj
    unfold b_M_advance_39 nx kd
    generalize sD D 116 9 (D 116 8) = G at g7 g8 g2 g9 go gj ⊢
    rw [g8, m_see ht g7 hp, ob_some]
    by_cases c : t ≤ p
    · rw [if_pos c, if_pos c, if_pos c, if_pos rfl]
      refine ⟨_, rfl, fun z hz => by rw [sD_nr _ _ _ hz, go z hz], fun j j4 j5 j6 j7 => by rw [sD_nj _ _ _ j6, gj j j5], by rw [sD_nj _ _ _ (by decide), g8], sD_eq _ _ _ _, by rw [sD_nj _ _ _ (by decide), g9], fun e => absurd e (by decide)⟩
    · obtain ⟨⟨-, -, b1⟩, b2, b3, b4, b5⟩ := by_c (hB p (by omega))
      rw [if_neg c, if_neg c, if_neg c, g2, if_neg b2, b3, b4]
      by_cases c1 : g_Reader_isLetter (D 120 p) = 0
      · rw [if_pos c1, if_pos c1, if_pos c1]
        by_cases c2 : g_Reader_isDigit (D 120 p) = 0
        · rw [if_pos c2, if_pos c2, if_pos c2]
          by_cases c3 : D 120 p = nI 59
          · rw [if_pos (b1.mpr c3), if_pos c3]
            refine ⟨_, rfl, fun z hz => by rw [sD_nr _ _ _ hz, sD_nr _ _ _ hz, go z hz], fun j j4 j5 j6 j7 => by rw [sD_nj _ _ _ j4, sD_nj _ _ _ j6, gj j j5], ?_, ?_, ?_, fun e => absurd e (by decide)⟩
            · rw [sD_eq, sD_nj _ _ _ (by decide), g8, nI_add]
            · rw [sD_nj _ _ _ (by decide), sD_eq]
            · rw [sD_nj _ _ _ (by decide), sD_nj _ _ _ (by decide), g9]
          · rw [if_neg (fun q => c3 (b1.mp q)), if_neg c3]
            refine ⟨_, rfl, fun z hz => by rw [sD_nr _ _ _ hz, sD_nr _ _ _ hz, go z hz], fun j j4 j5 j6 j7 => by rw [sD_nj _ _ _ j4, sD_nj _ _ _ j6, gj j j5], ?_, ?_, ?_, fun e => absurd e (by decide)⟩
            · rw [sD_eq, sD_nj _ _ _ (by decide), g8, nI_add]
            · rw [sD_nj _ _ _ (by decide), sD_eq]
            · rw [sD_nj _ _ _ (by decide), sD_nj _ _ _ (by decide), g9]
        · rw [if_neg c2, if_neg c2, if_neg c2]
          have er : sD G 116 11 (nI 0) 120 = D 120 := by rw [sD_nr _ _ _ (by decide), g2]
          obtain ⟨D1, a1, a2, a3, a4, a5, a6⟩ := m_dgs (F := F) ht (t - p) F p 0 (sD G 116 11 (nI 0)) (by rw [er]; exact hB) (by rw [sD_nj _ _ _ (by decide), g7]) (by rw [sD_nj _ _ _ (by decide), g8]) (by rw [sD_eq]; rfl) (by omega) (by omega)
          rw [er] at a4 a6
          refine ⟨D1, a1, fun z hz => by rw [a2 z hz, sD_nr _ _ _ hz, go z hz], fun j j4 j5 j6 j7 => by rw [a3 j j4 j6 j7, sD_nj _ _ _ j7, gj j j5], a4, a5, ?_, fun _ => a6⟩
          rw [a3 9 (by decide) (by decide) (by decide), sD_nj _ _ _ (by decide), g9]
      · rw [if_neg c1, if_neg c1, if_neg c1]
        obtain ⟨D1, a1, a2, a3, a4, a5⟩ := m_let (F := F) ht (t - p) F p G (by rw [g2]; exact hB) g7 g8 (by omega) (by omega)
        rw [g2] at a4
        refine ⟨D1, a1, fun z hz => by rw [a2 z hz, go z hz], fun j j4 j5 j6 j7 => by rw [a3 j j4 j6, gj j j5], a4, a5, ?_, fun e => absurd e (by decide)⟩
        rw [a3 9 (by decide) (by decide), g9]
  have key : ∀ (k f p : Nat) (D : mx_D), BY (D 120) t → D 116 7 = nI t → D 116 8 = nI p → p + k = t → k < f → ∃ D1, g_M_advance_0 F f D = some D1 ∧ (∀ c, c ≠ 116 → D1 c = D c) ∧ (∀ j, j ≠ 8 → j ≠ 9 → j ≠ 10 → j ≠ 11 → D1 116 j = D 116 j) ∧ D1 116 8 = nI (nx (D 120) t (tw (D 120) k p)) ∧ D1 116 10 = nI (kd (D 120) t (tw (D 120) k p)) ∧ D1 116 9 = nI (tw (D 120) k p) ∧ (kd (D 120) t (tw (D 120) k p) = 2 → D1 116 11 = nI (min 99999 (tv (D 120) (t - tw (D 120) k p) (tw (D 120) k p) 0))) := by
    intro k
    induction k with
    | zero =>
      intro f p D hB h7 h8 hp hf
      obtain ⟨f, rfl⟩ : ∃ g, f = g + 1 := ⟨f - 1, by omega⟩
      rw [s_M_advance_0]
      unfold b_M_advance_0
      rw [h8, m_see ht h7 (by omega), ob_some, ob_some, if_pos (show t ≤ p by omega), if_neg (by decide), if_neg (by decide)]
      exact rest p D hB h7 h8 (by omega)
    | succ k ih =>
      intro f p D hB h7 h8 hp hf
      obtain ⟨f, rfl⟩ : ∃ g, f = g + 1 := ⟨f - 1, by omega⟩
      have e : tw (D 120) (k + 1) p = if D 120 p = nI 32 then tw (D 120) k (p + 1) else if D 120 p = nI 10 then tw (D 120) k (p + 1) else p := rfl
      have er : sD D 116 8 (nI (p + 1)) 120 = D 120 := sD_nr _ _ _ (by decide)
      have nxt := ih f (p + 1) (sD D 116 8 (nI (p + 1))) (by rw [er]; exact hB) (by rw [sD_nj _ _ _ (by decide)]; exact h7) (sD_eq _ _ _ _) (by omega) (by omega)
      rw [er] at nxt
      obtain ⟨D1, a1, a2, a3, a4, a5, a6, a7⟩ := nxt
      obtain ⟨⟨b1, b2, -⟩, -, -, -, -⟩ := by_c (hB p (by omega))
      rw [s_M_advance_0]
      unfold b_M_advance_0
      rw [h8, m_see ht h7 (by omega), ob_some, ob_some, if_neg (show ¬ t ≤ p by omega), nI_add, e]
      by_cases c : D 120 p = nI 32
      · rw [if_pos (b1.mpr c), if_pos c]
        exact ⟨D1, a1, fun z hz => by rw [a2 z hz, sD_nr _ _ _ hz], fun j j4 j5 j6 j7 => by rw [a3 j j4 j5 j6 j7, sD_nj _ _ _ j4], a4, a5, a6, a7⟩
      · rw [if_neg (fun q => c (b1.mp q)), if_neg c]
        by_cases c2 : D 120 p = nI 10
        · rw [if_pos (b2.mpr c2), if_pos c2]
          exact ⟨D1, a1, fun z hz => by rw [a2 z hz, sD_nr _ _ _ hz], fun j j4 j5 j6 j7 => by rw [a3 j j4 j5 j6 j7, sD_nj _ _ _ j4], a4, a5, a6, a7⟩
        · rw [if_neg (fun q => c2 (b2.mp q)), if_neg c2]
          exact rest p D hB h7 h8 (by omega)
  exact key (t - p) F p D hB h7 h8 (by omega) (by omega)
end TM
