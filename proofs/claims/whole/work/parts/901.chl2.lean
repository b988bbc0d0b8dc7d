/-! ===== both readers in step: a line, by its word ===== -/
section CM
variable {D D' D0 : mx_D} {w w' : W_} {F : Nat}
theorem per_B (hF : 2000 ≤ F) {t : Nat} (h : S2 D D' t) (g : ¬ D' 116 12 = 0) : ∃ D1, b_Reader_readPerson_24 F D = some D1 ∧ LK D D' D1 D' t := by
  obtain ⟨A, a1, a2⟩ := word_B hF (w := 1012) (by decide) (by decide) h g
  obtain ⟨B, b1, b2⟩ := word_B hF (w := 1013) (by decide) (by decide) a2.1 g
  obtain ⟨C, c1, c2⟩ := num_B hF b2.1 g (nI 100) (nI 220)
  obtain ⟨E, d1, d2⟩ := word_B hF (w := 1014) (by decide) (by decide) c2.1 g
  obtain ⟨G, e1, e2⟩ := num_B hF d2.1 g (nI 0) (nI 9)
  obtain ⟨H, f1, f2⟩ := word_B hF (w := 1015) (by decide) (by decide) e2.1 g
  obtain ⟨K, k1, k2⟩ := num_B hF f2.1 g (nI 0) (nI 9)
  unfold b_Reader_readPerson_24
  rw [a1, ob_some, b1, ob_some, c1, ob_some, d1, ob_some, e1, ob_some, f1, ob_some, k1, ob_some, if_neg (fun e => g (k2.1.1.1.symm.trans e))]
  exact ⟨K, rfl, LK_t a2 (LK_t b2 (LK_t c2 (LK_t d2 (LK_t e2 (LK_t f2 k2)))))⟩
theorem hat_B (hF : 2000 ≤ F) {t : Nat} (h : S2 D D' t) (g : ¬ D' 116 12 = 0) : ∃ D1, b_Reader_readHat_21 F D = some D1 ∧ LK D D' D1 D' t := by
  obtain ⟨A, a1, a2⟩ := word_B hF (w := 1017) (by decide) (by decide) h g
  obtain ⟨K, k1, k2⟩ := num_B hF a2.1 g (nI 0) (nI 30)
  unfold b_Reader_readHat_21
  rw [a1, ob_some, k1, ob_some, if_neg (fun e => g (k2.1.1.1.symm.trans e))]
  exact ⟨K, rfl, LK_t a2 k2⟩
theorem book_B (hF : 2000 ≤ F) {t : Nat} (h : S2 D D' t) (g : ¬ D' 116 12 = 0) : ∃ D1, b_Reader_readBook_20 F D = some D1 ∧ LK D D' D1 D' t := by
  obtain ⟨A, a1, a2⟩ := word_B hF (w := 1019) (by decide) (by decide) h g
  obtain ⟨K, k1, k2⟩ := num_B hF a2.1 g (nI 1) (nI 30)
  unfold b_Reader_readBook_20
  rw [a1, ob_some, k1, ob_some, if_neg (fun e => g (k2.1.1.1.symm.trans e))]
  exact ⟨K, rfl, LK_t a2 k2⟩
/-- the reference's way to a line -/
theorem if1n {α : Type} (A B : α) : (if nI 1 = 0 then A else B) = B := if_neg z1
theorem n87_B (hF : 2000 ≤ F) (g : ¬ D 116 12 = 0) : b_M_readNext_87 F D = some D := by
  unfold b_M_readNext_87 b_M_readNext_107 b_M_readNext_127 b_M_readNext_152
  rw [is_bad (wd (w := 1012) (by decide) (by decide)) (by omega) g, ob_some, if0, is_bad (wd (w := 1017) (by decide) (by decide)) (by omega) g, ob_some, if0, is_bad (wd (w := 1019) (by decide) (by decide)) (by omega) g, ob_some, if0, good_0 g, if_pos z0]
theorem n152_B (g : ¬ D 116 12 = 0) : b_M_readNext_152 F D = some D := by
  unfold b_M_readNext_152
  rw [good_0 g, if_pos z0]
/-- the reference's eight words, as the token stands -/
def IS (F : Nat) (D : mx_D) (x1 x2 x3 x4 x5 x6 x7 x8 : Bool) : Prop :=
  g_M_is F D 1007 = some (b01 x1) ∧ g_M_is F D 1011 = some (b01 x2) ∧ g_M_is F D 1012 = some (b01 x3) ∧ g_M_is F D 1016 = some (b01 x4) ∧ g_M_is F D 1017 = some (b01 x5) ∧ g_M_is F D 1018 = some (b01 x6) ∧ g_M_is F D 1019 = some (b01 x7) ∧ g_M_is F D 1020 = some (b01 x8)
theorem next_none (h : IS F D false false false false false false false false) : g_M_readNext F D = b_M_readNext_87 F (g_M_errs (nI 1) D) := by
  obtain ⟨h1, h2, h3, h4, h5, h6, h7, h8⟩ := h
  unfold g_M_readNext b_M_readNext_77
  rw [h1, ob_some, if0, h2, ob_some, if0, h3, ob_some, if0, h4, ob_some, if0, h5, ob_some, if0, h6, ob_some, if0, h7, ob_some, if0, h8, ob_some, if0, if_pos z0]
theorem next_one {x1 x2 x3 x4 x5 x6 x7 x8 : Bool} (h : IS F D x1 x2 x3 x4 x5 x6 x7 x8) (k : (x1 || x2 || x3 || x4 || x5 || x6 || x7 || x8) = true) : g_M_readNext F D = b_M_readNext_87 F D := by
  obtain ⟨h1, h2, h3, h4, h5, h6, h7, h8⟩ := h
  unfold g_M_readNext b_M_readNext_72 b_M_readNext_77
  cases x1
  · cases x2
    · cases x3
      · cases x4
        · cases x5
          · cases x6
            · cases x7
              · cases x8
                · exact absurd k (by decide)
                · rw [h1, ob_some, if0, h2, ob_some, if0, h3, ob_some, if0, h4, ob_some, if0, h5, ob_some, if0, h6, ob_some, if0, h7, ob_some, if0, h8, ob_some, if1, if1n]
              · rw [h1, ob_some, if0, h2, ob_some, if0, h3, ob_some, if0, h4, ob_some, if0, h5, ob_some, if0, h6, ob_some, if0, h7, ob_some, if1, if1n]
            · rw [h1, ob_some, if0, h2, ob_some, if0, h3, ob_some, if0, h4, ob_some, if0, h5, ob_some, if0, h6, ob_some, if1, if1n]
          · rw [h1, ob_some, if0, h2, ob_some, if0, h3, ob_some, if0, h4, ob_some, if0, h5, ob_some, if1, if1n]
        · rw [h1, ob_some, if0, h2, ob_some, if0, h3, ob_some, if0, h4, ob_some, if1, if1n]
      · rw [h1, ob_some, if0, h2, ob_some, if0, h3, ob_some, if1, if1n]
    · rw [h1, ob_some, if0, h2, ob_some, if1, if1n]
  · rw [h1, ob_some, if1, if1n]
theorem next_152 {x1 x2 x3 x4 x5 x6 x7 x8 : Bool} (h : IS F D x1 x2 x3 x4 x5 x6 x7 x8) (k3 : x3 = true → ¬ D 122 4 = nI 8) (k5 : x5 = true → ¬ D 122 5 = nI 8) (k7 : x7 = true → ¬ D 122 6 = nI 5) : b_M_readNext_87 F D = b_M_readNext_152 F D := by
  obtain ⟨h1, h2, h3, h4, h5, h6, h7, h8⟩ := h
  have e127 : b_M_readNext_127 F D = b_M_readNext_152 F D := by
    unfold b_M_readNext_127
    rw [h7, ob_some]
    cases x7
    · exact if0 _ _
    · rw [if1, if_neg (k7 rfl)]
  have e107 : b_M_readNext_107 F D = b_M_readNext_152 F D := by
    unfold b_M_readNext_107
    rw [h5, ob_some]
    cases x5
    · rw [if0, e127]
    · rw [if1, if_neg (k5 rfl), e127]
  unfold b_M_readNext_87
  rw [h3, ob_some]
  cases x3
  · rw [if0, e107]
  · rw [if1, if_neg (k3 rfl), e107]
/-- the class's way to a line -/
def JS (F : Nat) (D : mx_D) (x1 x2 x3 x4 x5 x6 x7 x8 : Bool) : Prop :=
  g_Reader_isWord F D 1007 = some (b01 x1) ∧ g_Reader_isWord F D 1011 = some (b01 x2) ∧ g_Reader_isWord F D 1012 = some (b01 x3) ∧ g_Reader_isWord F D 1016 = some (b01 x4) ∧ g_Reader_isWord F D 1017 = some (b01 x5) ∧ g_Reader_isWord F D 1018 = some (b01 x6) ∧ g_Reader_isWord F D 1019 = some (b01 x7) ∧ g_Reader_isWord F D 1020 = some (b01 x8)
theorem obs {α : Type} (o : Option α) : (Option.bind o fun r => some r) = o := by cases o <;> rfl
/-- the whole line: its outcome, said once -/
def LO (F : Nat) (D D' : mx_D) (t n : Nat) : Prop := ∃ D1 D1', g_Reader_readLine F D = some D1 ∧ g_M_readLine F D' = some D1' ∧ LN D D' (sD D1 4 4 (D1 4 4 + nI 1)) D1' t ∧ (D1' 116 12 = 0 → DT (sD D1 4 4 (D1 4 4 + nI 1)) (D1' 122) ∧ 0 < nP (D1' 122) ∧ D1' 122 7 = nI (n + 1) ∧ (D 3 6).toInt + 1 ≤ (sD D1 4 4 (D1 4 4 + nI 1) 3 6).toInt)
theorem LO_of (hF : 2000 ≤ F) {t n : Nat} {K K' : mx_D} (h : LN D D' K K' t) (hn : n + 1 ≤ 1400) (hr : K' 116 12 = 0 → RD K (K' 122) n) (e1 : g_Reader_readLine F D = Option.bind (g_Reader_takeSign F K) (fun r => some r)) (e2 : g_M_readLine F D' = b_M_readLine_21 F K') : LO F D D' t n := by
  obtain ⟨D1, D1', a1, a2, a3, a4⟩ := fin_LN hF h hn hr
  exact ⟨D1, D1', by rw [e1, obs]; exact a1, by rw [e2]; exact a2, a3, a4⟩
theorem LO_bad (hF : 2000 ≤ F) {t n : Nat} (h : S2 D D' t) {K' : mx_D} (e0 : ∀ c, c ≠ 122 → K' c = g_M_errs (nI 1) D' c) (e1 : g_Reader_readLine F D = Option.bind (g_Reader_takeSign F (g_Reader_refuse (nI 1) (D 3 6) D)) (fun r => some r)) (e2 : g_M_readLine F D' = b_M_readLine_21 F K') : LO F D D' t n := by
  obtain ⟨D1, D1', a1, a2, a3, a4⟩ := bad_LN hF h (n := nI 1) (by decide) e0
  exact ⟨D1, D1', by rw [e1, obs]; exact a1, by rw [e2]; exact a2, a3, fun e => absurd e a4⟩
theorem first_LO (hF : 2000 ≤ F) {t : Nat} (h : S2 D D' t) (g : D' 116 12 = 0) (hD : DT D (D' 122)) (hz : ∀ i, i < 106 → D' 122 i = nI 0) : LO F D D' t 0 := by
  have h7 : D' 122 7 = nI 0 := hz 7 (by decide)
  have d44 : D 4 4 = nI 0 := by rw [hD.1.1.2.2.2.2.1, h7]
  obtain ⟨x, x', f1, f2, f3, -⟩ := isW_ST hF h.1 (w := 1000) (by decide) (by decide)
  have hx := f3 g
  subst hx
  cases x
  · have hb : ¬ g_M_errs (nI 1) D' 116 12 = 0 := (refuse_LK h (n := nI 1) (by decide)).2
    have rf : g_M_readFirst F D' = some (sD (sD (sD (g_M_errs (nI 1) D') 122 0 (nI 0)) 122 1 (nI 0)) 122 2 (nI 0)) := by
      have n0 : g_M_needs F 1000 D' = some (g_M_errs (nI 1) D') := by
        unfold g_M_needs
        rw [takes_no f2, ob_some, if0]
      have b1 : ∀ j v, ¬ sD (g_M_errs (nI 1) D') 122 j v 116 12 = 0 := fun j v => by rw [sD_ne _ _ _ _ (by decide)]; exact hb
      have b2 : ∀ j v j2 v2, ¬ sD (sD (g_M_errs (nI 1) D') 122 j v) 122 j2 v2 116 12 = 0 := fun j v j2 v2 => by rw [sD_ne _ _ _ _ (by decide)]; exact b1 j v
      have b3 : ∀ j v j2 v2 j3 v3, ¬ sD (sD (sD (g_M_errs (nI 1) D') 122 j v) 122 j2 v2) 122 j3 v3 116 12 = 0 := fun j v j2 v2 j3 v3 => by rw [sD_ne _ _ _ _ (by decide)]; exact b2 j v j2 v2
      unfold g_M_readFirst
      rw [n0, ob_some, told_B (by decide) (by decide) hF _ _ hb, ob_some, told_B (by decide) (by decide) hF _ _ (b1 _ _), ob_some, told_B (by decide) (by decide) hF _ _ (b2 _ _ _ _), ob_some, needs_B (by decide) (by decide) hF (b3 _ _ _ _ _ _), ob_some, takes_no (is_bad (wd (by decide) (by decide)) (by omega) (b3 _ _ _ _ _ _)), ob_some, if0, needs_B (by decide) (by decide) hF (b3 _ _ _ _ _ _), ob_some]
    refine LO_bad hF h (K' := sD (sD (sD (g_M_errs (nI 1) D') 122 0 (nI 0)) 122 1 (nI 0)) 122 2 (nI 0)) (fun c hc => by rw [sD_nr _ _ _ hc, sD_nr _ _ _ hc, sD_nr _ _ _ hc]) ?_ ?_
    · unfold g_Reader_readLine b_Reader_readLine_21
      rw [f1, ob_some, d44, if_pos z0, if_neg (show ¬ b01 false = nI 1 by decide)]
    · unfold g_M_readLine
      rw [h7, if_pos z0, rf, ob_some]
  · obtain ⟨K, K', k1, k2, k3, k4⟩ := head_LN hF h (hz 3 (by decide))
    refine LO_of hF k3 (by decide) (fun e => ?_) ?_ ?_
    · obtain ⟨a, b, c, v, q1, q2, q3, q4, q5, q6, q7, q8, q9⟩ := k4 e
      exact RD_head ⟨q6, q7⟩ hD hz q1 q2 q3 q4 q5 q8 q9
    · unfold g_Reader_readLine b_Reader_readLine_21
      rw [f1, ob_some, d44, if_pos z0, if_pos (show b01 true = nI 1 from rfl), ob_some, if1, k1, ob_some]
    · unfold g_M_readLine
      rw [h7, if_pos z0, k2, ob_some]
end CM
