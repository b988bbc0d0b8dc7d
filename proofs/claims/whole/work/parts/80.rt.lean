/-! ===== both readers in step: tokens and words ===== -/
section RT
variable {D D' : mx_D} {F : Nat}
theorem tw_c {T T' : Nat → Int32} {t : Nat} (e : ∀ j, j < t → T j = T' j) : ∀ k p, p + k = t → tw T k p = tw T' k p
  | 0, _, _ => rfl
  | k + 1, p, h => by
    unfold tw
    rw [e p (by omega), tw_c e k (p + 1) (by omega)]
theorem tl_c {T T' : Nat → Int32} {t : Nat} (e : ∀ j, j < t → T j = T' j) : ∀ k p, p + k = t → tl T k p = tl T' k p
  | 0, _, _ => rfl
  | k + 1, p, h => by
    unfold tl
    rw [e p (by omega), tl_c e k (p + 1) (by omega)]
theorem td_c {T T' : Nat → Int32} {t : Nat} (e : ∀ j, j < t → T j = T' j) : ∀ k p, p + k = t → td T k p = td T' k p
  | 0, _, _ => rfl
  | k + 1, p, h => by
    unfold td
    rw [e p (by omega), td_c e k (p + 1) (by omega)]
theorem tv_c {T T' : Nat → Int32} {t : Nat} (e : ∀ j, j < t → T j = T' j) : ∀ k p v, p + k = t → tv T k p v = tv T' k p v
  | 0, _, _, _ => rfl
  | k + 1, p, v, h => by
    unfold tv
    rw [e p (by omega), tv_c e k (p + 1) _ (by omega)]
theorem tw_b (T : Nat → Int32) : ∀ k p, p ≤ tw T k p ∧ tw T k p ≤ p + k
  | 0, p => ⟨Nat.le_refl _, Nat.le_refl _⟩
  | k + 1, p => by
    have := tw_b T k (p + 1)
    unfold tw
    split
    · omega
    · split <;> omega
theorem tl_b (T : Nat → Int32) : ∀ k p, p ≤ tl T k p ∧ tl T k p ≤ p + k
  | 0, p => ⟨Nat.le_refl _, Nat.le_refl _⟩
  | k + 1, p => by
    have := tl_b T k (p + 1)
    unfold tl
    split <;> omega
theorem td_b (T : Nat → Int32) : ∀ k p, p ≤ td T k p ∧ td T k p ≤ p + k
  | 0, p => ⟨Nat.le_refl _, Nat.le_refl _⟩
  | k + 1, p => by
    have := td_b T k (p + 1)
    unfold td
    split <;> omega
theorem nx_b (T : Nat → Int32) {t p : Nat} (hp : p ≤ t) : p ≤ nx T t p ∧ nx T t p ≤ t := by
  have h1 := tl_b T (t - p) p
  have h2 := td_b T (t - p) p
  unfold nx
  split
  · omega
  · split
    · split <;> omega
    · omega
theorem kd_4 (T : Nat → Int32) (t p : Nat) : kd T t p ≤ 4 := by
  unfold kd
  repeat' split
  all_goals omega
theorem kd_0 {T : Nat → Int32} {t p : Nat} (h : kd T t p = 0) : t ≤ p := by
  unfold kd at h
  by_cases c : t ≤ p
  · exact c
  · rw [if_neg c] at h
    revert h
    repeat' split
    all_goals intro h
    all_goals cases h
theorem kd_c {T T' : Nat → Int32} {t p : Nat} (e : ∀ j, j < t → T j = T' j) : kd T t p = kd T' t p := by
  unfold kd
  by_cases c : t ≤ p
  · rw [if_pos c, if_pos c]
  · rw [if_neg c, if_neg c, e p (by omega)]
theorem nx_c {T T' : Nat → Int32} {t p : Nat} (e : ∀ j, j < t → T j = T' j) : nx T t p = nx T' t p := by
  unfold nx
  by_cases c : t ≤ p
  · rw [if_pos c, if_pos c]
  · rw [if_neg c, if_neg c, e p (by omega), tl_c e _ _ (by omega), td_c e _ _ (by omega)]
/-- the class's tape and place are sound -/
def XP (D : mx_D) (t : Nat) : Prop := t ≤ 1400 ∧ D 1 1 = nI t ∧ BY (D 2) t ∧ ∃ p q k, q ≤ p ∧ p ≤ t ∧ k ≤ 4 ∧ D 3 4 = nI p ∧ D 3 6 = nI q ∧ D 3 5 = nI k ∧ (k = 2 → ∃ v, D 3 7 = nI (min 100000 v))
/-- both stand at one token of one tape -/
def RTK (D D' : mx_D) (t : Nat) : Prop := t ≤ 1400 ∧ D 1 1 = nI t ∧ D' 116 7 = nI t ∧ (∀ j, j < t → D 2 j = D' 120 j) ∧ BY (D' 120) t ∧ ∃ p q k, q ≤ p ∧ p ≤ t ∧ k ≤ 4 ∧ (D 3 4 = nI p ∧ D' 116 8 = nI p) ∧ (D 3 6 = nI q ∧ D' 116 9 = nI q) ∧ (D 3 5 = nI k ∧ D' 116 10 = nI k) ∧ (k = 2 → ∃ v, D 3 7 = nI (min 100000 v) ∧ D' 116 11 = nI (min 99999 v))
theorem RTK_X {t : Nat} (h : RTK D D' t) : XP D t := by
  obtain ⟨h1, h2, h3, h4, h5, p, q, k, a1, a2, a3, a4, a5, a6, a7⟩ := h
  exact ⟨h1, h2, fun j hj => by rw [h4 j hj]; exact h5 j hj, p, q, k, a1, a2, a3, a4.1, a5.1, a6.1, fun e => (a7 e).imp (fun v hv => hv.1)⟩
theorem adv_X (hF : 2000 ≤ F) {t : Nat} (h : XP D t) : ∃ D1, g_Reader_advance F D = some D1 ∧ XP D1 t ∧ (∀ c, c ≠ 3 → D1 c = D c) ∧ (∀ j, j ≠ 4 → j ≠ 5 → j ≠ 6 → j ≠ 7 → D1 3 j = D 3 j) := by
  obtain ⟨h1, h2, h3, p, q, k, a1, a2, a3, a4, a5, a6, a7⟩ := h
  obtain ⟨D1, b1, b2, b3, b4, b5, b6, b7⟩ := x_adv hF h1 h2 a4 a2
  have w1 := tw_b (D 2) (t - p) p
  have w2 := nx_b (D 2) (show tw (D 2) (t - p) p ≤ t by omega)
  exact ⟨D1, b1, ⟨h1, by rw [b2 1 (by decide)]; exact h2, by rw [b2 2 (by decide)]; exact h3, _, _, _, w2.1, w2.2, kd_4 _ _ _, b4, b6, b5, fun e => ⟨_, b7 e⟩⟩, b2, b3⟩
theorem adv_RT (hF : 2000 ≤ F) {t : Nat} (h : RTK D D' t) : ∃ D1 D1', g_Reader_advance F D = some D1 ∧ g_M_advance F D' = some D1' ∧ RTK D1 D1' t ∧ ((∀ c, c ≠ 3 → D1 c = D c) ∧ (∀ j, j ≠ 4 → j ≠ 5 → j ≠ 6 → j ≠ 7 → D1 3 j = D 3 j)) ∧ (∀ c, c ≠ 116 → D1' c = D' c) ∧ (∀ j, j ≠ 8 → j ≠ 9 → j ≠ 10 → j ≠ 11 → D1' 116 j = D' 116 j) := by
  obtain ⟨h1, h2, h3, h4, h5, p, q, k, a1, a2, a3, a4, a5, a6, a7⟩ := h
  obtain ⟨D1, b1, b2, b3, b4, b5, b6, b7⟩ := x_adv hF h1 h2 a4.1 a2
  obtain ⟨D2, c1, c2, c3, c4, c5, c6, c7⟩ := m_adv hF h1 h5 h3 a4.2 a2
  have w1 := tw_b (D' 120) (t - p) p
  have w2 := nx_b (D' 120) (show tw (D' 120) (t - p) p ≤ t by omega)
  rw [tw_c h4 _ _ (show p + (t - p) = t by omega), nx_c h4] at b4
  rw [tw_c h4 _ _ (show p + (t - p) = t by omega), kd_c h4] at b5
  rw [tw_c h4 _ _ (show p + (t - p) = t by omega)] at b6
  rw [tw_c h4 _ _ (show p + (t - p) = t by omega), kd_c h4, tv_c h4 _ _ _ (by omega)] at b7
  refine ⟨D1, D2, b1, c1, ⟨h1, by rw [b2 1 (by decide)]; exact h2, by rw [c3 7 (by decide) (by decide) (by decide) (by decide)]; exact h3, fun j hj => by rw [b2 2 (by decide), c2 120 (by decide)]; exact h4 j hj, by rw [c2 120 (by decide)]; exact h5, _, _, _, w2.1, w2.2, kd_4 _ _ _, ⟨b4, c4⟩, ⟨b6, c6⟩, ⟨b5, c5⟩, fun e => ⟨_, b7 e, c7 e⟩⟩, ⟨b2, b3⟩, c2, c3⟩
/-- a word of the language: its length, its letters -/
def WD (w : Nat) (L : Nat) (c : Nat → Int32) : Prop := L ≤ 20 ∧ st_len w = some (nI L) ∧ ∀ i, i < L → st_at w (nI i) = some (c i)
/-- from place q + i on the tape says the word's rest -/
def ws (T : Nat → Int32) (c : Nat → Int32) (q : Nat) : Nat → Nat → Bool
  | 0, _ => true
  | k + 1, i => if T (q + i) = c i then ws T c q k (i + 1) else false
theorem ws_c {T T' : Nat → Int32} {t : Nat} (e : ∀ j, j < t → T j = T' j) (c : Nat → Int32) (q : Nat) : ∀ k i, q + i + k ≤ t → ws T c q k i = ws T' c q k i
  | 0, _, _ => rfl
  | k + 1, i, h => by
    unfold ws
    rw [e (q + i) (by omega), ws_c e c q k (i + 1) (by omega)]
theorem x_ws {w L : Nat} {c : Nat → Int32} (hw : WD w L c) {q : Nat} (hq : q + L ≤ 1400) (h6 : D 3 6 = nI q) : ∀ k f i, i + k = L → k < f → g_Reader_isWord_28 F D f w (nI i) = some (b01 (ws (D 2) c q k i)) := by
  obtain ⟨w1, w2, w3⟩ := hw
  intro k
  induction k with
  | zero =>
    intro f i hi hf
    obtain ⟨f, rfl⟩ : ∃ g, f = g + 1 := ⟨f - 1, by omega⟩
    rw [s_Reader_isWord_28]
    unfold b_Reader_isWord_28
    rw [w2, ob_some, if_pos (nI_le (by omega) (by omega))]
    rfl
  | succ k ih =>
    intro f i hi hf
    obtain ⟨f, rfl⟩ : ∃ g, f = g + 1 := ⟨f - 1, by omega⟩
    have e : ws (D 2) c q (k + 1) i = if D 2 (q + i) = c i then ws (D 2) c q k (i + 1) else false := rfl
    rw [s_Reader_isWord_28]
    unfold b_Reader_isWord_28
    rw [w2, ob_some, if_neg (nI_ge (by omega) (by omega)), h6, nI_add, rk_in (by omega) (by decide), w3 i (by omega), ob_some, nI_clamp (by omega), nI_add, e]
    by_cases z : D 2 (q + i) = c i
    · rw [if_pos z, if_pos z]
      exact ih f (i + 1) (by omega) (by omega)
    · rw [if_neg z, if_neg z]
      rfl
theorem m_ws {w L : Nat} {c : Nat → Int32} (hw : WD w L c) {q : Nat} (hq : q + L ≤ 1400) (h9 : D 116 9 = nI q) : ∀ k f i, i + k = L → k + 1 < f → g_M_is_39 F D f w (nI 1) (nI i) = some (b01 (ws (D 120) c q k i)) := by
  obtain ⟨w1, w2, w3⟩ := hw
  intro k
  induction k with
  | zero =>
    intro f i hi hf
    obtain ⟨f, rfl⟩ : ∃ g, f = g + 1 := ⟨f - 1, by omega⟩
    rw [s_M_is_39]
    unfold b_M_is_39
    rw [w2, ob_some, if_pos (nI_le (by omega) (by omega)), zk_1]
    rfl
  | succ k ih =>
    intro f i hi hf
    obtain ⟨f, rfl⟩ : ∃ g, f = g + 1 := ⟨f - 1, by omega⟩
    have e : ws (D 120) c q (k + 1) i = if D 120 (q + i) = c i then ws (D 120) c q k (i + 1) else false := rfl
    rw [s_M_is_39]
    unfold b_M_is_39
    rw [w2, ob_some, if_neg (nI_ge (by omega) (by omega)), if_neg (show ¬ nI 1 = 0 by decide), h9, nI_add, rk_in (by omega) (by decide), w3 i (by omega), ob_some, nI_clamp (by omega), nI_add, e]
    by_cases z : D 120 (q + i) = c i
    · rw [if_pos z, if_pos z]
      exact ih f (i + 1) (by omega) (by omega)
    · rw [if_neg z, if_neg z]
      obtain ⟨f, rfl⟩ : ∃ g, f = g + 1 := ⟨f - 1, by omega⟩
      rw [s_M_is_39]
      unfold b_M_is_39
      rw [w2, ob_some, zk_0]
      split <;> rfl
theorem m_no {w L : Nat} {c : Nat → Int32} (hw : WD w L c) (hF : 100 ≤ F) : g_M_is_39 F D F w (nI 0) (nI 0) = some (b01 false) := by
  obtain ⟨w1, w2, w3⟩ := hw
  obtain ⟨f, hf⟩ : ∃ g, F = g + 1 := ⟨F - 1, by omega⟩
  have : ∀ f, g_M_is_39 F D (f + 1) w (nI 0) (nI 0) = some (b01 false) := fun f => by
    rw [s_M_is_39]
    unfold b_M_is_39
    rw [w2, ob_some, zk_0]
    split <;> rfl
  have q := this f
  rw [← hf] at q
  exact q
/-- no word is there for the reference once a fault is found -/
theorem is_bad {w L : Nat} {c : Nat → Int32} (hw : WD w L c) (hF : 100 ≤ F) (h : ¬ D 116 12 = 0) : g_M_is F D w = some (b01 false) := by
  unfold g_M_is g_M_good
  rw [if_neg h, if_pos (show nI 0 = 0 from rfl)]
  exact m_no hw hF
theorem is_RT {w L : Nat} {c : Nat → Int32} (hw : WD w L c) (hF : 100 ≤ F) {t : Nat} (h : RTK D D' t) (hg : D' 116 12 = 0) : ∃ b, g_Reader_isWord F D w = some (b01 b) ∧ g_M_is F D' w = some (b01 b) := by
  obtain ⟨h1, h2, h3, h4, h5, p, q, k, a1, a2, a3, a4, a5, a6, a7⟩ := h
  have hw' := hw
  obtain ⟨w1, w2, w3⟩ := hw
  unfold g_Reader_isWord g_M_is g_M_good
  rw [if_pos hg, if_neg (show ¬ nI 1 = 0 by decide), a6.1, a6.2]
  by_cases c1 : k = 1
  · rw [c1, if_pos rfl, if_pos rfl, w2, ob_some, ob_some, a4.1, a4.2, a5.1, a5.2, nI_subN a1]
    by_cases c2 : p - q = L
    · rw [c2, if_pos rfl, if_pos rfl, x_ws hw' (by omega) a5.1 L F 0 (by omega) (by omega), m_ws hw' (by omega) a5.2 L F 0 (by omega) (by omega), ws_c h4 c q L 0 (by omega)]
      exact ⟨_, rfl, rfl⟩
    · have : ¬ nI (p - q) = nI L := fun e => c2 ((nI_eq (by omega) (by omega)).mp e)
      rw [if_neg this, if_neg this]
      exact ⟨false, rfl, m_no hw' hF⟩
  · have : ¬ nI k = nI 1 := fun e => c1 ((nI_eq (by omega) (by omega)).mp e)
    rw [if_neg this, if_neg this]
    exact ⟨false, rfl, m_no hw' hF⟩
end RT
