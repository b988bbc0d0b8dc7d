/-! ===== what ties the two stores together ===== -/
section RLs
def UQ (w : W_) : Prop := (∀ x y, x < nA w → y < nA w → w (40 + 6 * x + 5) = w (40 + 6 * y + 5) → ¬ w (40 + 6 * x + 5) = -1 → x = y) ∧ (∀ x y, x < nA w → y < nA w → w (40 + 6 * x + 3) = w (40 + 6 * y + 3) → w (40 + 6 * x + 4) = w (40 + 6 * y + 4) → ¬ w (40 + 6 * x + 3) = -1 → x = y)
def img (D : mx_D) (k : Nat) : W_ := fun i => D 118 (106 * k + i)
def SL (D : mx_D) (E : mx_E) (s : Nat) : Prop := (D 137 s = -1 ∧ D (108 + 2 * s) 1 = nI 0) ∨ ∃ m wd, m ≤ 60 ∧ wd < 4 ∧ D 137 s = nI m ∧ D (108 + 2 * s) 1 = nI 1 ∧ D (108 + 2 * s) 3 = nI m ∧ D (108 + 2 * s) 2 = nI wd ∧ D 138 s = nI wd ∧ ∀ i, i < 60 → E (109 + 2 * s) i = E 139 (60 * s + i)
def IM (D : mx_D) (k : Nat) : Prop := D 61 k = D 119 k ∧ (D 61 k = nI 0 ∨ (D 61 k = nI 1 ∧ CH D (63 + 15 * k) (img D k) ∧ WF (img D k) ∧ UQ (img D k)))
def TP (D : mx_D) : Prop := ∃ t, t ≤ 1400 ∧ D 1 1 = nI t ∧ D 116 5 = nI t ∧ ∀ j, j < t → D 2 j = D 120 j ∧ -128 ≤ (D 2 j).toInt ∧ (D 2 j).toInt ≤ 127
def RL (D : mx_D) (E : mx_E) : Prop := WF (D 117) ∧ UQ (D 117) ∧ CC D (D 117) ∧ TP D ∧ (D 3 1 = D 116 12 ∧ D 3 2 = D 116 13) ∧ (∀ k, k < 3 → IM D k) ∧ (∀ s, s < 4 → SL D E s)
/-- what a question leaves as it was -/
def FR (D D' : mx_D) : Prop := (∀ c, c < 34 ∨ (60 ≤ c ∧ c < 116) → D' c = D c) ∧ (D' 117 = D 117 ∧ D' 118 = D 118 ∧ D' 119 = D 119 ∧ D' 120 = D 120 ∧ D' 137 = D 137 ∧ D' 138 = D 138) ∧ (D' 116 5 = D 116 5 ∧ D' 116 12 = D 116 12 ∧ D' 116 13 = D 116 13)
def FX (D D' : mx_D) : Prop := ∀ c, c < 34 ∨ 60 ≤ c → D' c = D c
def FM (D D' : mx_D) : Prop := (∀ c, c < 116 → D' c = D c) ∧ (D' 117 = D 117 ∧ D' 118 = D 118 ∧ D' 119 = D 119 ∧ D' 120 = D 120 ∧ D' 137 = D 137 ∧ D' 138 = D 138) ∧ (D' 116 5 = D 116 5 ∧ D' 116 12 = D 116 12 ∧ D' 116 13 = D 116 13)
theorem FX_r (D : mx_D) : FX D D := fun _ _ => rfl
theorem FX_t {D D' D'' : mx_D} (h : FX D D') (h2 : FX D' D'') : FX D D'' := fun c hc => (h2 c hc).trans (h c hc)
theorem FX_h {D D' : mx_D} (h : ∀ c, c < 34 ∨ 36 < c → D' c = D c) : FX D D' := fun c hc => h c (by omega)
theorem FM_r (D : mx_D) : FM D D := ⟨fun _ _ => rfl, ⟨rfl, rfl, rfl, rfl, rfl, rfl⟩, ⟨rfl, rfl, rfl⟩⟩
theorem FM_t {D D' D'' : mx_D} (h : FM D D') (h2 : FM D' D'') : FM D D'' := by
  obtain ⟨a1, ⟨a2, a3, a4, a5, a6, a7⟩, a8, a9, a10⟩ := h
  obtain ⟨b1, ⟨b2, b3, b4, b5, b6, b7⟩, b8, b9, b10⟩ := h2
  exact ⟨fun c hc => (b1 c hc).trans (a1 c hc), ⟨b2.trans a2, b3.trans a3, b4.trans a4, b5.trans a5, b6.trans a6, b7.trans a7⟩, b8.trans a8, b9.trans a9, b10.trans a10⟩
theorem FM_123 {D D' : mx_D} (h : ∀ c, c ≠ 123 → D' c = D c) : FM D D' := by
  have h116 := h 116 (by decide)
  exact ⟨fun c hc => h c (by omega), ⟨h 117 (by decide), h 118 (by decide), h 119 (by decide), h 120 (by decide), h 137 (by decide), h 138 (by decide)⟩, by rw [h116], by rw [h116], by rw [h116]⟩
theorem FR_XM {D D' D'' : mx_D} (h : FX D D') (h2 : FM D' D'') : FR D D'' := by
  obtain ⟨b1, ⟨b2, b3, b4, b5, b6, b7⟩, b8, b9, b10⟩ := h2
  have e := h 116 (by omega)
  exact ⟨fun c hc => (b1 c (by omega)).trans (h c (by omega)), ⟨b2.trans (h _ (by omega)), b3.trans (h _ (by omega)), b4.trans (h _ (by omega)), b5.trans (h _ (by omega)), b6.trans (h _ (by omega)), b7.trans (h _ (by omega))⟩, b8.trans (by rw [e]), b9.trans (by rw [e]), b10.trans (by rw [e])⟩
theorem RL_q {D D' : mx_D} {E E' : mx_E} (h : RL D E) (f : FR D D') (g : ∀ c, c ≠ 116 → c ≠ 140 → E' c = E c) : RL D' E' := by
  obtain ⟨h1, h2, h3, h4, h5, h6, h7⟩ := h
  obtain ⟨a1, ⟨a2, a3, a4, a5, a6, a7⟩, a8, a9, a10⟩ := f
  have ei : ∀ k, img D' k = img D k := fun k => by
    unfold img
    rw [a3]
  refine ⟨by rw [a2]; exact h1, by rw [a2]; exact h2, ?_, ?_, ?_, fun k hk => ?_, fun s hs => ?_⟩
  · rw [a2]
    exact CH_of h3 (fun k q1 q2 => a1 k (by omega))
  · obtain ⟨t, q1, q2, q3, q4⟩ := h4
    exact ⟨t, q1, by rw [a1 1 (by omega)]; exact q2, by rw [a8]; exact q3, fun j hj => by rw [a1 2 (by omega), a5]; exact q4 j hj⟩
  · rw [a1 3 (by omega), a9, a10]
    exact h5
  · have q := h6 k hk
    unfold IM at q ⊢
    rw [a1 61 (by omega), a4, ei]
    exact ⟨q.1, q.2.imp id (fun z => ⟨z.1, CH_of z.2.1 (fun k q1 q2 => a1 k (by omega)), z.2.2⟩)⟩
  · have q := h7 s hs
    unfold SL at q ⊢
    rw [a1 (108 + 2 * s) (by omega), a6, a7, g (109 + 2 * s) (by omega) (by omega), g 139 (by omega) (by omega)]
    exact q
theorem rng_s {α : Type} (a : Int32) {m : Nat} (hm : m + 1 < 2 ^ 31) (P Q : α) : (if a < 0 then P else if a ≤ nI m then Q else P) = if vx a (m + 1) = true then Q else P := by
  have e := has_s a (n := m + 1) hm
  have hle : a ≤ nI m ↔ ¬ nI (m + 1) ≤ a := by
    rw [Int32.le_iff_toInt_le, Int32.le_iff_toInt_le, nI_toInt (by omega), nI_toInt hm]
    omega
  by_cases h1 : a < 0
  · rw [if_pos h1] at e ⊢
    cases hv : vx a (m + 1)
    · rfl
    · rw [hv] at e
      exact absurd e (by decide)
  · rw [if_neg h1] at e ⊢
    by_cases h2 : nI (m + 1) ≤ a
    · rw [if_pos h2] at e
      rw [if_neg (fun q => hle.mp q h2)]
      cases hv : vx a (m + 1)
      · rfl
      · rw [hv] at e
        exact absurd e (by decide)
    · rw [if_neg h2] at e
      rw [if_pos (hle.mpr h2)]
      cases hv : vx a (m + 1)
      · rw [hv] at e
        exact absurd e (by decide)
      · rfl
theorem M_in_i (a : Int32) {c : Int64} {n : Nat} (hc : c.toInt = n) : g_M_in a.toInt64 (lN 0) c = b01 (vx a (n + 1)) := by
  rw [M_in_l _ hc, vl_i]
theorem b01_if {α : Type} (c : Bool) (A B : α) : (if b01 c = 0 then A else B) = if c = true then B else A := by
  cases c
  · rw [if_pos ((b01_z _).mpr rfl), if_neg (by decide)]
  · rw [if_neg (fun q => by cases (b01_z _).mp q), if_pos rfl]
end RLs
