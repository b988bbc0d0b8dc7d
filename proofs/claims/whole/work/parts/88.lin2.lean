/-! ===== both readers in step: a person, a hat, a book, who sits, wears, stands ===== -/
section LJ
variable {D D' D0 : mx_D} {F : Nat}
theorem per_LN (hF : 2000 ≤ F) {t : Nat} (e0 : g_Reader_takeWord F 1012 D0 = some D) (x0 : XF D0 D) (h : S2 D D' t) (hD : DT D (D' 122)) (hP : 0 < nP (D' 122)) (hN : 0 < nN (D' 122)) (h8 : nA (D' 122) < 8) : ∃ D1 D1', g_Reader_readPerson F D0 = some D1 ∧ g_M_readPerson F D' = some D1' ∧ LN D D' D1 D1' t ∧ PO D' D1 D1' := by
  have w4 := wf_A hD.2.1
  have d9 : D0 9 6 = nI (nA (D' 122)) := by rw [← x0 9 (by decide), bd_4 hD, w4]
  obtain ⟨A0, ra, ra', A1, A1', a1, a2, a3, a4, a5⟩ := told_LK hF (w := 1013) (by decide) (by decide) h (a := nI 100) (b := nI 220) (by decide)
  generalize hA : nA (D' 122) = a at w4 d9 h8
  have la := LN_w (LN_k a4) (D2 := A1) (D2' := sD A1' 122 (40 + 6 * a + 0) ra') (fun c hc => rfl) (fun c hc => sD_nr _ _ _ hc)
  obtain ⟨B0, rb, rb', B1, B1', b1, b2, b3, b4, b5⟩ := told_LK hF (w := 1014) (by decide) (by decide) la.1 (a := nI 0) (b := nI 9) (by decide)
  have lb := LN_w (LN_t la (LN_k b4)) (D2 := B1) (D2' := sD B1' 122 (40 + 6 * a + 1) rb') (fun c hc => rfl) (fun c hc => sD_nr _ _ _ hc)
  obtain ⟨C0, rc, rc', C1, C1', c1, c2, c3, c4, c5⟩ := told_LK hF (w := 1015) (by decide) (by decide) lb.1 (a := nI 0) (b := nI 9) (by decide)
  have lc := LN_t lb (LN_k c4)
  unfold g_Reader_readPerson b_Reader_readPerson_24 g_M_readPerson
  simp (disch := omega) only [w4, pk_mul, nI_add, rk_in, nI_clamp]
  rw [d9, if_pos (nI_lt h8 (by omega)), e0, ob_some, a1, ob_some, a2, ob_some, a3, ob_some, b1, ob_some, b2, ob_some, b3, ob_some, c1, ob_some, c2, ob_some, c3, ob_some]
  have m1 := MF_122 c4.2.2.1
  have m2 := MF_122 b4.2.2.1
  have m3 := MF_122 a4.2.2.1
  have o4 : C1' 122 4 = nI a := by
    rw [m1, sD_nj _ _ _ (by omega), m2, sD_nj _ _ _ (by omega), m3, w4]
  have e4 : sD (sD (sD (sD C1' 122 (40 + 6 * a + 2) rc') 122 (40 + 6 * a + 3) (-1)) 122 (40 + 6 * a + 4) (-1)) 122 (40 + 6 * a + 5) (-1) 122 4 + nI 1 = nI (a + 1) := by
    rw [sD_nj _ _ _ (by omega), sD_nj _ _ _ (by omega), sD_nj _ _ _ (by omega), sD_nj _ _ _ (by omega), o4, nI_add]
  show ∃ D1 D1', _ ∧ some (sD (sD (sD (sD (sD C1' 122 (40 + 6 * a + 2) rc') 122 (40 + 6 * a + 3) (-1)) 122 (40 + 6 * a + 4) (-1)) 122 (40 + 6 * a + 5) (-1)) 122 4 (sD (sD (sD (sD C1' 122 (40 + 6 * a + 2) rc') 122 (40 + 6 * a + 3) (-1)) 122 (40 + 6 * a + 4) (-1)) 122 (40 + 6 * a + 5) (-1) 122 4 + nI 1)) = some D1' ∧ _
  rw [e4]
  have lw : ∀ G : mx_D, (∀ c, c < 4 ∨ 18 < c → G c = C1 c) → LN D D' G (sD (sD (sD (sD (sD C1' 122 (40 + 6 * a + 2) rc') 122 (40 + 6 * a + 3) (-1)) 122 (40 + 6 * a + 4) (-1)) 122 (40 + 6 * a + 5) (-1)) 122 4 (nI (a + 1))) t := fun G hG =>
    LN_w lc hG (fun c hc => by rw [sD_nr _ _ _ hc, sD_nr _ _ _ hc, sD_nr _ _ _ hc, sD_nr _ _ _ hc, sD_nr _ _ _ hc])
  by_cases g : C1' 116 12 = 0
  · have gB : B1' 116 12 = 0 := by
      have := MF_g c4.2.2.1 g
      rw [sD_ne _ _ _ _ (by decide)] at this
      exact this
    have gA : A1' 116 12 = 0 := by
      have := MF_g b4.2.2.1 gB
      rw [sD_ne _ _ _ _ (by decide)] at this
      exact this
    obtain ⟨rfl, p2, p3⟩ := a5 gA
    obtain ⟨rfl, p5, p6⟩ := b5 gB
    obtain ⟨rfl, p8, p9⟩ := c5 g
    have r1 := le_t (by decide) (by decide) p2 p3
    have r2 := le_t (by decide) (by decide) p5 p6
    have r3 := le_t (by decide) (by decide) p8 p9
    have hc : ∀ c, 4 ≤ c → c ≤ 18 → C1 c = D c := fun c q1 q2 => by rw [c4.2.1 c (by omega), b4.2.1 c (by omega), a4.2.1 c (by omega)]
    have c9 : C1 9 6 = nI a := by rw [hc 9 (by decide) (by decide), bd_4 hD, w4]
    obtain ⟨K, k1, k2⟩ := add_s c9 h8 ra rb rc
    have ex : (if C1 3 1 = 0 then Option.bind (g_People_add_9 ra rb rc C1) (fun r8 => some r8) else some C1) = some K := by
      rw [if_pos (lc.1.1.1.trans g), k1, ob_some]
    refine ⟨K, _, ex, rfl, lw K (fun c hc => k2.1 c (by omega)), fun _ => ?_⟩
    refine ⟨DT_per (DT_x hD hc) hP hN hA h8 ⟨r1.1, r1.2⟩ ⟨by omega, by omega⟩ ⟨by omega, by omega⟩ k2 (fun i q1 q2 => ?_) (sD_eq _ _ _ _) ?_ ?_ ?_ ?_ ?_ ?_, ?_, ?_⟩
    · rw [sD_nj _ _ _ q1, sD_nj _ _ _ (by omega), sD_nj _ _ _ (by omega), sD_nj _ _ _ (by omega), sD_nj _ _ _ (by omega), m1, sD_nj _ _ _ (by omega), m2, sD_nj _ _ _ (by omega), m3]
    · rw [sD_nj _ _ _ (by omega), sD_nj _ _ _ (by omega), sD_nj _ _ _ (by omega), sD_nj _ _ _ (by omega), sD_nj _ _ _ (by omega), m1, sD_nj _ _ _ (by omega), m2]
      exact sD_eq _ _ _ _
    · rw [sD_nj _ _ _ (by omega), sD_nj _ _ _ (by omega), sD_nj _ _ _ (by omega), sD_nj _ _ _ (by omega), sD_nj _ _ _ (by omega), m1]
      exact sD_eq _ _ _ _
    · rw [sD_nj _ _ _ (by omega), sD_nj _ _ _ (by omega), sD_nj _ _ _ (by omega), sD_nj _ _ _ (by omega)]
      exact sD_eq _ _ _ _
    · rw [sD_nj _ _ _ (by omega), sD_nj _ _ _ (by omega), sD_nj _ _ _ (by omega)]
      exact sD_eq _ _ _ _
    · rw [sD_nj _ _ _ (by omega), sD_nj _ _ _ (by omega)]
      exact sD_eq _ _ _ _
    · rw [sD_nj _ _ _ (by omega)]
      exact sD_eq _ _ _ _
    · rw [sD_nj _ _ _ (by omega), sD_nj _ _ _ (by omega), sD_nj _ _ _ (by omega), sD_nj _ _ _ (by omega), sD_nj _ _ _ (by omega), m1, sD_nj _ _ _ (by omega), m2, sD_nj _ _ _ (by omega), m3]
    · unfold nP
      rw [sD_nj _ _ _ (by omega), sD_nj _ _ _ (by omega), sD_nj _ _ _ (by omega), sD_nj _ _ _ (by omega), sD_nj _ _ _ (by omega), m1, sD_nj _ _ _ (by omega), m2, sD_nj _ _ _ (by omega), m3]
      exact hP
  · have ex : (if C1 3 1 = 0 then Option.bind (g_People_add_9 ra rb rc C1) (fun r8 => some r8) else some C1) = some C1 := by
      rw [if_neg (fun e => g (lc.1.1.1.symm.trans e))]
    refine ⟨C1, _, ex, rfl, lw C1 (fun c hc => rfl), fun e => ?_⟩
    rw [sD_ne _ _ _ _ (by decide), sD_ne _ _ _ _ (by decide), sD_ne _ _ _ _ (by decide), sD_ne _ _ _ _ (by decide), sD_ne _ _ _ _ (by decide)] at e
    exact absurd e g
theorem hat_LN (hF : 2000 ≤ F) {t : Nat} (e0 : g_Reader_takeWord F 1017 D0 = some D) (x0 : XF D0 D) (h : S2 D D' t) (hD : DT D (D' 122)) (hP : 0 < nP (D' 122)) (hN : 0 < nN (D' 122)) (h8 : nH (D' 122) < 8) : ∃ r' D1 D2', g_Reader_readHat F D0 = some D1 ∧ g_M_number F (nI 0) (nI 30) D' = some (r', D2') ∧ LN D D' D1 (sD (sD D2' 122 (88 + nH (D' 122)) r') 122 5 (nI (nH (D' 122) + 1))) t ∧ D2' 122 = D' 122 ∧ PO D' D1 (sD (sD D2' 122 (88 + nH (D' 122)) r') 122 5 (nI (nH (D' 122) + 1))) := by
  have w5 := wf_H hD.2.1
  obtain ⟨r, r', A1, A1', a1, a2, a3, a4, a5, a6⟩ := num_LK hF h (a := nI 0) (b := nI 30) (a' := nI 0) (b' := nI 30) (fun _ => ⟨rfl, rfl, by decide⟩)
  have d0 : D0 4 10 = nI (nH (D' 122)) := by rw [← x0 4 (by decide), bd_5 hD, w5]
  have e122 := MF_122 a3.2.2.1
  have lw : ∀ G : mx_D, (∀ c, c < 4 ∨ 18 < c → G c = A1 c) → LN D D' G (sD (sD A1' 122 (88 + nH (D' 122)) r') 122 5 (nI (nH (D' 122) + 1))) t := fun G hG =>
    LN_w (LN_k a3) hG (fun c hc => by rw [sD_nr _ _ _ hc, sD_nr _ _ _ hc])
  unfold g_Reader_readHat b_Reader_readHat_21
  rw [d0, if_pos (nI_lt h8 (by omega)), e0, ob_some, a1, ob_some]
  by_cases g : A1' 116 12 = 0
  · obtain ⟨rfl, p2, p3, -, -⟩ := a5 g
    have r1 := le_t (by decide) (by decide) p2 p3
    have hDA := DT_LK hD a3
    have hDA' := hDA
    rw [e122] at hDA
    have d4 : A1 4 10 = nI (nH (D' 122)) := by rw [bd_5 hDA, w5]
    have ex : (if A1 3 1 = 0 then rk 8 (A1 4 10) (some (sD (sD A1 16 (A1 4 10).toNatClampNeg r) 4 10 (sD A1 16 (A1 4 10).toNatClampNeg r 4 10 + nI 1))) else some A1) = some (sD (sD A1 16 (nH (D' 122)) r) 4 10 (nI (nH (D' 122) + 1))) := by
      rw [if_pos (a3.1.1.1.trans g), d4, rk_in h8 (by decide), nI_clamp (by omega), sD_ne _ _ _ _ (by decide), d4, nI_add]
    refine ⟨r, _, A1', ex, a2, lw _ (fun c hc => by rw [sD_nr _ _ _ (by omega), sD_nr _ _ _ (by omega)]), e122, fun _ => ?_⟩
    rw [sD_row, sD_row, e122]
    refine ⟨DT_hat hDA hP hN h8 ⟨by omega, by omega⟩, ?_, ?_⟩
    · rw [upd_ne _ _ (by omega), upd_ne _ _ (by omega)]
    · unfold nP
      rw [upd_ne _ _ (by omega), upd_ne _ _ (by omega)]
      exact hP
  · have ex : (if A1 3 1 = 0 then rk 8 (A1 4 10) (some (sD (sD A1 16 (A1 4 10).toNatClampNeg r) 4 10 (sD A1 16 (A1 4 10).toNatClampNeg r 4 10 + nI 1))) else some A1) = some A1 := by
      rw [if_neg (fun e => g (a3.1.1.1.symm.trans e))]
    refine ⟨r', _, A1', ex, a2, lw _ (fun c hc => rfl), e122, fun e => ?_⟩
    rw [sD_ne _ _ _ _ (by decide), sD_ne _ _ _ _ (by decide)] at e
    exact absurd e g
theorem book_LN (hF : 2000 ≤ F) {t : Nat} (e0 : g_Reader_takeWord F 1019 D0 = some D) (x0 : XF D0 D) (h : S2 D D' t) (hD : DT D (D' 122)) (hP : 0 < nP (D' 122)) (hN : 0 < nN (D' 122)) (h8 : nB (D' 122) < 5) : ∃ r' D1 D2', g_Reader_readBook F D0 = some D1 ∧ g_M_number F (nI 1) (nI 30) D' = some (r', D2') ∧ LN D D' D1 (sD (sD (sD D2' 122 (96 + 2 * nB (D' 122)) r') 122 (96 + 2 * nB (D' 122) + 1) (-1)) 122 6 (nI (nB (D' 122) + 1))) t ∧ D2' 122 = D' 122 ∧ PO D' D1 (sD (sD (sD D2' 122 (96 + 2 * nB (D' 122)) r') 122 (96 + 2 * nB (D' 122) + 1) (-1)) 122 6 (nI (nB (D' 122) + 1))) := by
  have w6 := wf_B hD.2.1
  obtain ⟨r, r', A1, A1', a1, a2, a3, a4, a5, a6⟩ := num_LK hF h (a := nI 1) (b := nI 30) (a' := nI 1) (b' := nI 30) (fun _ => ⟨rfl, rfl, by decide⟩)
  have d0 : D0 4 12 = nI (nB (D' 122)) := by rw [← x0 4 (by decide), bd_6 hD, w6]
  have e122 := MF_122 a3.2.2.1
  have lw : ∀ G : mx_D, (∀ c, c < 4 ∨ 18 < c → G c = A1 c) → LN D D' G (sD (sD (sD A1' 122 (96 + 2 * nB (D' 122)) r') 122 (96 + 2 * nB (D' 122) + 1) (-1)) 122 6 (nI (nB (D' 122) + 1))) t := fun G hG =>
    LN_w (LN_k a3) hG (fun c hc => by rw [sD_nr _ _ _ hc, sD_nr _ _ _ hc, sD_nr _ _ _ hc])
  unfold g_Reader_readBook b_Reader_readBook_20
  rw [d0, if_pos (nI_lt h8 (by omega)), e0, ob_some, a1, ob_some]
  by_cases g : A1' 116 12 = 0
  · obtain ⟨rfl, p2, p3, -, -⟩ := a5 g
    have r1 := le_t (by decide) (by decide) p2 p3
    have hDA := DT_LK hD a3
    rw [e122] at hDA
    have d4 : A1 4 12 = nI (nB (D' 122)) := by rw [bd_6 hDA, w6]
    have ex : (if A1 3 1 = 0 then rk 5 (A1 4 12) (some (sD (sD A1 17 (A1 4 12).toNatClampNeg r) 4 12 (sD A1 17 (A1 4 12).toNatClampNeg r 4 12 + nI 1))) else some A1) = some (sD (sD A1 17 (nB (D' 122)) r) 4 12 (nI (nB (D' 122) + 1))) := by
      rw [if_pos (a3.1.1.1.trans g), d4, rk_in h8 (by decide), nI_clamp (by omega), sD_ne _ _ _ _ (by decide), d4, nI_add]
    refine ⟨r, _, A1', ex, a2, lw _ (fun c hc => by rw [sD_nr _ _ _ (by omega), sD_nr _ _ _ (by omega)]), e122, fun _ => ?_⟩
    rw [sD_row, sD_row, sD_row, e122]
    refine ⟨DT_book hDA hP hN h8 ⟨by omega, by omega⟩, ?_, ?_⟩
    · rw [upd_ne _ _ (by omega), upd_ne _ _ (by omega), upd_ne _ _ (by omega)]
    · unfold nP
      rw [upd_ne _ _ (by omega), upd_ne _ _ (by omega), upd_ne _ _ (by omega)]
      exact hP
  · have ex : (if A1 3 1 = 0 then rk 5 (A1 4 12) (some (sD (sD A1 17 (A1 4 12).toNatClampNeg r) 4 12 (sD A1 17 (A1 4 12).toNatClampNeg r 4 12 + nI 1))) else some A1) = some A1 := by
      rw [if_neg (fun e => g (a3.1.1.1.symm.trans e))]
    refine ⟨r', _, A1', ex, a2, lw _ (fun c hc => rfl), e122, fun e => ?_⟩
    rw [sD_ne _ _ _ _ (by decide), sD_ne _ _ _ _ (by decide), sD_ne _ _ _ _ (by decide)] at e
    exact absurd e g
/-- what the next number names, as the reference looks ahead -/
theorem vx_dec {n : Nat} (h : n ≤ 1000) (v : Int32) : vx v n = true ↔ nI 0 ≤ v ∧ v ≤ nI n - nI 1 := by
  rw [Int32.le_iff_toInt_le, Int32.le_iff_toInt_le, dec_t h, nI_toInt (by decide)]
  unfold vx
  rw [Bool.and_eq_true, decide_eq_true_eq, decide_eq_true_eq]
  omega
theorem M_isNextWith_s (hW : WF (D 122)) (g : D 116 12 = 0) {k : Nat} (hk : k < 6) : g_M_isNextWith D (nI k) = some (b01 (decide (D 116 10 = nI 2) && (vx (D 116 11) (nA (D 122)) && decide (¬ D 122 (40 + 6 * (D 116 11).toNatClampNeg + k) = -1)))) := by
  have h8 := wf_A8 hW
  unfold g_M_isNextWith
  rw [good_1 g, if_neg z1]
  by_cases c : D 116 10 = nI 2
  · rw [if_pos c, wf_A hW, M_in_0 _ (by omega), vl_i, decide_eq_true c]
    rcases vx_c (D 116 11) (nA (D 122)) (by omega) with q | ⟨j, hj, q⟩
    · rw [q, if_pos zb0]
      rfl
    · rw [q, vx_nI (by omega), decide_eq_true hj, if_neg zb1]
      unfold g_M_freshOf
      rw [pk_mul, nI_add, nI_add, rk_in (by omega) (by decide), nI_clamp (by omega), nI_clamp (by omega), ob_some]
      by_cases z : D 122 (40 + 6 * j + k) = -1
      · rw [if_pos z, z]
        rfl
      · rw [if_neg z, decide_eq_true z]
        rfl
  · rw [if_neg c, decide_eq_false c]
    rfl
theorem lffb (p : Nat → Bool) (G : Nat → Nat → Option Int32) (n : Nat) (hn : n < 2 ^ 31) (hs : ∀ f a, a < n → G (f + 1) a = if p a = true then some (nI 1) else G f (a + 1)) (he : ∀ f, G (f + 1) n = some (nI 0)) : ∀ k f a, a + k = n → k < f → G f a = some (b01 (decide (¬ ff p k a = -1))) := by
  intro k
  induction k with
  | zero =>
    intro f a h hf
    obtain ⟨f, rfl⟩ : ∃ g, f = g + 1 := ⟨f - 1, by omega⟩
    obtain rfl : a = n := by omega
    exact he f
  | succ k ih =>
    intro f a h hf
    obtain ⟨f, rfl⟩ : ∃ g, f = g + 1 := ⟨f - 1, by omega⟩
    have e : ff p (k + 1) a = if p a = true then nI a else ff p k (a + 1) := rfl
    rw [hs f a (by omega), e]
    by_cases c : p a = true
    · rw [if_pos c, if_pos c, decide_eq_true (nI_m1 (by omega))]
      rfl
    · rw [if_neg c, if_neg c]
      exact ih f (a + 1) (by omega) (by omega)
theorem M_isNextTaken_s (hF : 100 ≤ F) (hW : WF (D 122)) (g : D 116 12 = 0) {k : Nat} (hk : k < 6) (l2 : Int32) : g_M_isNextTaken F D (nI k) l2 = some (b01 (decide (D 116 10 = nI 2) && decide (¬ ff (fun x => decide (D 122 (40 + 6 * x + k) = D 116 11) && (decide (l2 = -1) || decide (D 122 (40 + 6 * x + 3) = l2))) (nA (D 122)) 0 = -1))) := by
  have h8 := wf_A8 hW
  unfold g_M_isNextTaken
  rw [good_1 g, if_neg z1]
  by_cases c : D 116 10 = nI 2
  · rw [if_pos c, decide_eq_true c, Bool.true_and]
    refine lffb _ (fun f a => g_M_isNextTaken_19 F D f (nI k) l2 (nI a)) (nA (D 122)) (by omega) (fun f a ha => ?_) (fun f => ?_) (nA (D 122)) F 0 (by omega) (by omega)
    · show g_M_isNextTaken_19 F D (f + 1) (nI k) l2 (nI a) = _
      rw [s_M_isNextTaken_19]
      unfold b_M_isNextTaken_19
      unfold g_M_freshOf
      rw [wf_A hW, if_neg (nI_ge ha (by omega)), pk_mul, nI_add, nI_add, nI_add, rk_in (by omega) (by decide), rk_in (by omega) (by decide), nI_clamp (by omega), nI_clamp (by omega), ob_some, ob_some, nI_add]
      by_cases q1 : D 122 (40 + 6 * a + k) = D 116 11
      · by_cases q2 : l2 = -1
        · simp [q1, q2]
        · by_cases q3 : D 122 (40 + 6 * a + 3) = l2
          · simp [q1, q2, q3]
          · simp [q1, q2, q3]
      · simp [q1]
    · show g_M_isNextTaken_19 F D (f + 1) (nI k) l2 (nI (nA (D 122))) = _
      rw [s_M_isNextTaken_19]
      unfold b_M_isNextTaken_19
      rw [wf_A hW, if_pos (nI_le (Nat.le_refl _) (by omega))]
  · rw [if_neg c, decide_eq_false c]
    rfl
end LJ
