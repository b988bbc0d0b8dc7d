/-! ===== the draft grows: a person, a hat, a book ===== -/
section DG
variable {D D' : mx_D} {w w' : W_} {F : Nat}
theorem add_s {a : Nat} (h9 : D 9 6 = nI a) (ha : a < 8) (t g e : Int32) : ∃ D1, g_People_add_9 t g e D = some D1 ∧ (∀ c, c < 9 ∨ 15 < c → D1 c = D c) ∧ D1 9 6 = nI (a + 1) ∧ D1 10 = upd (D 10) a t ∧ D1 11 = upd (D 11) a g ∧ D1 12 = upd (D 12) a e ∧ D1 13 = upd (D 13) a (-1) ∧ D1 14 = upd (D 14) a (-1) ∧ D1 15 = upd (D 15) a (-1) := by
  unfold g_People_add_9
  rw [h9, if_pos (nI_lt ha (by omega))]
  simp (disch := omega) only [sD_ne, h9, nI_clamp, rk_in, nI_add]
  refine ⟨_, rfl, fun c hc => ?_, ?_, ?_, ?_, ?_, ?_, ?_, ?_⟩
  · simp (disch := omega) only [sD_nr]
  · simp (disch := omega) only [sD_nr, sD_eq]
  all_goals simp (disch := omega) only [sD_nr, sD_row]
theorem DT_per (h : DT D w) (hP : 0 < nP w) (hN : 0 < nN w) {a : Nat} (ha : nA w = a) (h8 : a < 8) {t g e : Int32} (ht : 100 ≤ t.toInt ∧ t.toInt ≤ 220) (hg : 0 ≤ g.toInt ∧ g.toInt ≤ 9) (he : 0 ≤ e.toInt ∧ e.toInt ≤ 9) {D1 : mx_D} (f : (∀ c, c < 9 ∨ 15 < c → D1 c = D c) ∧ D1 9 6 = nI (a + 1) ∧ D1 10 = upd (D 10) a t ∧ D1 11 = upd (D 11) a g ∧ D1 12 = upd (D 12) a e ∧ D1 13 = upd (D 13) a (-1) ∧ D1 14 = upd (D 14) a (-1) ∧ D1 15 = upd (D 15) a (-1))
    (o : ∀ i, i ≠ 4 → (i < 40 + 6 * a ∨ 40 + 6 * a + 5 < i) → w' i = w i) (o4 : w' 4 = nI (a + 1)) (p0 : w' (40 + 6 * a) = t) (p1 : w' (40 + 6 * a + 1) = g) (p2 : w' (40 + 6 * a + 2) = e) (p3 : w' (40 + 6 * a + 3) = -1) (p4 : w' (40 + 6 * a + 4) = -1) (p5 : w' (40 + 6 * a + 5) = -1) : DT D1 w' := by
  obtain ⟨h1, h2, h3, h4, h5⟩ := h
  obtain ⟨f0, f9, f10, f11, f12, f13, f14, f15⟩ := f
  have e4 : nA w' = a + 1 := by unfold nA; rw [o4, nI_clamp (by omega)]
  have e5 : nH w' = nH w := by unfold nH; rw [o 5 (by omega) (by omega)]
  have e6 : nB w' = nB w := by unfold nB; rw [o 6 (by omega) (by omega)]
  have hH := wf_H8 h2
  have hB := wf_B5 h2
  have hx : ∀ x, x < a + 1 → (x < nA w ∧ ∀ j, j < 6 → w' (40 + 6 * x + j) = w (40 + 6 * x + j)) ∨ x = a := fun x hx => by
    by_cases c : x = a
    · exact Or.inr c
    · exact Or.inl ⟨by omega, fun j hj => o _ (by omega) (by omega)⟩
  obtain ⟨⟨c0, c1, c2, c3, c4, c10, c12, c9⟩, d2, d3, d4, d5, d6⟩ := h1
  refine ⟨⟨⟨?_, ?_, ?_, ?_, ?_, ?_, ?_, ?_⟩, fun j hj => ⟨?_, ?_, ?_⟩, fun j hj => ?_, fun x hx2 => ?_, fun x hx2 => ?_, fun b hb2 => ⟨?_, ?_⟩⟩, ?_, ?_, fun b q1 q2 => ?_, fun j hj => ?_⟩
  · rw [f0 4 (by omega), o 0 (by omega) (by omega)]; exact c0
  · rw [f0 4 (by omega), o 1 (by omega) (by omega)]; exact c1
  · rw [f0 4 (by omega), o 2 (by omega) (by omega)]; exact c2
  · rw [f0 4 (by omega), o 3 (by omega) (by omega)]; exact c3
  · rw [f0 4 (by omega), o 7 (by omega) (by omega)]; exact c4
  · rw [f0 4 (by omega), o 5 (by omega) (by omega)]; exact c10
  · rw [f0 4 (by omega), o 6 (by omega) (by omega)]; exact c12
  · rw [o4]; exact f9
  · rw [f0 (4 + 1) (by omega), o _ (by omega) (by omega)]; exact (d2 j hj).1
  · rw [f0 (4 + 2) (by omega), o _ (by omega) (by omega)]; exact (d2 j hj).2.1
  · rw [f0 (4 + 3) (by omega), o _ (by omega) (by omega)]; exact (d2 j hj).2.2
  · rw [f0 (4 + 4) (by omega), o _ (by omega) (by omega)]; exact d3 j hj
  · rw [e4] at hx2
    show D1 10 x = _ ∧ D1 11 x = _ ∧ D1 12 x = _ ∧ D1 13 x = _ ∧ D1 14 x = _ ∧ D1 15 x = _
    rw [f10, f11, f12, f13, f14, f15]
    rcases hx x hx2 with ⟨q1, q2⟩ | rfl
    · have ne : x ≠ a := by omega
      rw [upd_ne _ _ ne, upd_ne _ _ ne, upd_ne _ _ ne, upd_ne _ _ ne, upd_ne _ _ ne, upd_ne _ _ ne]
      have z0 : w' (40 + 6 * x) = w (40 + 6 * x) := q2 0 (by omega)
      rw [z0, q2 1 (by omega), q2 2 (by omega), q2 3 (by omega), q2 4 (by omega), q2 5 (by omega)]
      exact d4 x q1
    · rw [upd_eq, upd_eq, upd_eq, upd_eq, upd_eq, upd_eq]
      exact ⟨p0.symm, p1.symm, p2.symm, p3.symm, p4.symm, p5.symm⟩
  · rw [e5] at hx2
    rw [f0 (4 + 12) (by omega), o _ (by omega) (by omega)]; exact d5 x hx2
  · rw [e6] at hb2
    rw [f0 (4 + 13) (by omega), o _ (by omega) (by omega)]; exact (d6 b hb2).1
  · rw [e6] at hb2
    rw [f0 (4 + 14) (by omega), o _ (by omega) (by omega)]; exact (d6 b hb2).2
  · refine WF_grow h2 hP (a := a + 1) (h := nH w) (b := nB w) (n := nN w) (by omega) hH hB hN (wf_N14 h2) (by omega) (Nat.le_refl _) (fun i hi => o i (by omega) (by omega)) o4 (by rw [o 5 (by omega) (by omega)]; exact wf_H h2) (by rw [o 6 (by omega) (by omega)]; exact wf_B h2) (by rw [o 7 (by omega) (by omega)]; exact wf_N h2) (fun i q1 q2 => o i (by omega) (by omega)) (fun x hx2 => ?_) (fun x hx => Or.inl ⟨hx, o _ (by omega) (by omega)⟩) (fun x hx => Or.inl ⟨hx, o _ (by omega) (by omega), o _ (by omega) (by omega)⟩)
    rcases hx x hx2 with z | rfl
    · exact Or.inl z
    · unfold ti
      rw [p0, p1, p2, p3, p4, p5]
      exact Or.inr ⟨⟨ht.1, ht.2, hg.1, hg.2, he.1, he.2⟩, rfl, rfl, rfl⟩
  · refine UQ_grow h3 e4 (fun x hx2 => ?_)
    rcases hx x hx2 with z | rfl
    · exact Or.inl z
    · exact Or.inr ⟨p3, p5⟩
  · rw [e6] at q1
    rw [f0 18 (by omega)]
    exact h4 b q1 q2
  · rw [o _ (by omega) (by omega)]
    exact h5 j hj
theorem DT_hat (h : DT D w) (hP : 0 < nP w) (hN : 0 < nN w) (h8 : nH w < 8) {v : Int32} (hv : 0 ≤ v.toInt ∧ v.toInt ≤ 30) : DT (sD (sD D 16 (nH w) v) 4 10 (nI (nH w + 1))) (upd (upd w (88 + nH w) v) 5 (nI (nH w + 1))) := by
  obtain ⟨h1, h2, h3, h4, h5⟩ := h
  have hA := wf_A8 h2
  have hB := wf_B5 h2
  have o : ∀ i, i ≠ 5 → i ≠ 88 + nH w → upd (upd w (88 + nH w) v) 5 (nI (nH w + 1)) i = w i := fun i q1 q2 => by rw [upd_ne _ _ q1, upd_ne _ _ q2]
  have o5 : upd (upd w (88 + nH w) v) 5 (nI (nH w + 1)) 5 = nI (nH w + 1) := upd_eq _ _ _
  have on : upd (upd w (88 + nH w) v) 5 (nI (nH w + 1)) (88 + nH w) = v := by rw [upd_ne _ _ (by omega), upd_eq]
  generalize upd (upd w (88 + nH w) v) 5 (nI (nH w + 1)) = w' at o o5 on ⊢
  have e4 : nA w' = nA w := by unfold nA; rw [o 4 (by omega) (by omega)]
  have e5 : nH w' = nH w + 1 := by
    show (w' 5).toNatClampNeg = nH w + 1
    rw [o5, nI_clamp (by omega)]
  have e6 : nB w' = nB w := by unfold nB; rw [o 6 (by omega) (by omega)]
  obtain ⟨⟨c0, c1, c2, c3, c4, c10, c12, c9⟩, d2, d3, d4, d5, d6⟩ := h1
  refine ⟨⟨⟨?_, ?_, ?_, ?_, ?_, ?_, ?_, ?_⟩, fun j hj => ?_, fun j hj => ?_, fun x hx2 => ?_, fun x hx2 => ?_, fun b hb2 => ?_⟩, ?_, ?_, fun b q1 q2 => ?_, fun j hj => ?_⟩
  · rw [sD_nj _ _ _ (by decide), sD_ne _ _ _ _ (by decide), o 0 (by omega) (by omega)]; exact c0
  · rw [sD_nj _ _ _ (by decide), sD_ne _ _ _ _ (by decide), o 1 (by omega) (by omega)]; exact c1
  · rw [sD_nj _ _ _ (by decide), sD_ne _ _ _ _ (by decide), o 2 (by omega) (by omega)]; exact c2
  · rw [sD_nj _ _ _ (by decide), sD_ne _ _ _ _ (by decide), o 3 (by omega) (by omega)]; exact c3
  · rw [sD_nj _ _ _ (by decide), sD_ne _ _ _ _ (by decide), o 7 (by omega) (by omega)]; exact c4
  · rw [sD_eq, o5]
  · rw [sD_nj _ _ _ (by decide), sD_ne _ _ _ _ (by decide), o 6 (by omega) (by omega)]; exact c12
  · rw [sD_ne _ _ _ _ (by decide), sD_ne _ _ _ _ (by decide), o 4 (by omega) (by omega)]; exact c9
  · rw [sD_nr _ _ _ (show 4 + 1 ≠ 4 by decide), sD_nr _ _ _ (show 4 + 1 ≠ 16 by decide), sD_nr _ _ _ (show 4 + 2 ≠ 4 by decide), sD_nr _ _ _ (show 4 + 2 ≠ 16 by decide), sD_nr _ _ _ (show 4 + 3 ≠ 4 by decide), sD_nr _ _ _ (show 4 + 3 ≠ 16 by decide), o _ (by omega) (by omega), o _ (by omega) (by omega), o _ (by omega) (by omega)]
    exact d2 j hj
  · rw [sD_nr _ _ _ (show 4 + 4 ≠ 4 by decide), sD_nr _ _ _ (show 4 + 4 ≠ 16 by decide), o _ (by omega) (by omega)]
    exact d3 j hj
  · rw [e4] at hx2
    have z : ∀ c, 10 ≤ c → c ≤ 15 → sD (sD D 16 (nH w) v) 4 10 (nI (nH w + 1)) c = D c := fun c q1 q2 => by rw [sD_nr _ _ _ (by omega), sD_nr _ _ _ (by omega)]
    rw [z (4 + 6) (by omega) (by omega), z (4 + 7) (by omega) (by omega), z (4 + 8) (by omega) (by omega), z (4 + 9) (by omega) (by omega), z (4 + 10) (by omega) (by omega), z (4 + 11) (by omega) (by omega), o _ (by omega) (by omega), o _ (by omega) (by omega), o _ (by omega) (by omega), o _ (by omega) (by omega), o _ (by omega) (by omega), o _ (by omega) (by omega)]
    exact d4 x hx2
  · rw [e5] at hx2
    rw [sD_ne _ _ _ _ (show 4 + 12 ≠ 4 by decide)]
    by_cases c : x = nH w
    · subst c
      rw [on]
      exact sD_eq _ _ _ _
    · rw [o _ (by omega) (by omega)]
      exact (sD_nj _ _ _ c).trans (d5 x (by omega))
  · rw [e6] at hb2
    rw [sD_nr _ _ _ (show 4 + 13 ≠ 4 by decide), sD_nr _ _ _ (show 4 + 13 ≠ 16 by decide), sD_nr _ _ _ (show 4 + 14 ≠ 4 by decide), sD_nr _ _ _ (show 4 + 14 ≠ 16 by decide), o _ (by omega) (by omega), o _ (by omega) (by omega)]
    exact d6 b hb2
  · refine WF_grow h2 hP (a := nA w) (h := nH w + 1) (b := nB w) (n := nN w) hA (by omega) hB hN (wf_N14 h2) (Nat.le_refl _) (by omega) (fun i hi => o i (by omega) (by omega)) (by rw [o 4 (by omega) (by omega)]; exact wf_A h2) o5 (by rw [o 6 (by omega) (by omega)]; exact wf_B h2) (by rw [o 7 (by omega) (by omega)]; exact wf_N h2) (fun i q1 q2 => o i (by omega) (by omega)) (fun x hx => Or.inl ⟨hx, fun j hj => o _ (by omega) (by omega)⟩) (fun x hx2 => ?_) (fun x hx => Or.inl ⟨hx, o _ (by omega) (by omega), o _ (by omega) (by omega)⟩)
    by_cases c : x = nH w
    · subst c
      unfold ti
      rw [on]
      exact Or.inr hv
    · exact Or.inl ⟨by omega, o _ (by omega) (by omega)⟩
  · exact UQ_c h3 e4 (fun x hx => ⟨o _ (by omega) (by omega), o _ (by omega) (by omega), o _ (by omega) (by omega)⟩)
  · rw [e6] at q1
    rw [sD_ne _ _ _ _ (by decide), sD_ne _ _ _ _ (by decide)]
    exact h4 b q1 q2
  · rw [o _ (by omega) (by omega)]
    exact h5 j hj
theorem DT_book (h : DT D w) (hP : 0 < nP w) (hN : 0 < nN w) (h8 : nB w < 5) {v : Int32} (hv : 1 ≤ v.toInt ∧ v.toInt ≤ 30) : DT (sD (sD D 17 (nB w) v) 4 12 (nI (nB w + 1))) (upd (upd (upd w (96 + 2 * nB w) v) (96 + 2 * nB w + 1) (-1)) 6 (nI (nB w + 1))) := by
  obtain ⟨h1, h2, h3, h4, h5⟩ := h
  have hA := wf_A8 h2
  have hH := wf_H8 h2
  have o : ∀ i, i ≠ 6 → i ≠ 96 + 2 * nB w → i ≠ 96 + 2 * nB w + 1 → upd (upd (upd w (96 + 2 * nB w) v) (96 + 2 * nB w + 1) (-1)) 6 (nI (nB w + 1)) i = w i := fun i q1 q2 q3 => by rw [upd_ne _ _ q1, upd_ne _ _ q3, upd_ne _ _ q2]
  have o6 : upd (upd (upd w (96 + 2 * nB w) v) (96 + 2 * nB w + 1) (-1)) 6 (nI (nB w + 1)) 6 = nI (nB w + 1) := upd_eq _ _ _
  have on : upd (upd (upd w (96 + 2 * nB w) v) (96 + 2 * nB w + 1) (-1)) 6 (nI (nB w + 1)) (96 + 2 * nB w) = v := by rw [upd_ne _ _ (by omega), upd_ne _ _ (by omega), upd_eq]
  have om : upd (upd (upd w (96 + 2 * nB w) v) (96 + 2 * nB w + 1) (-1)) 6 (nI (nB w + 1)) (96 + 2 * nB w + 1) = -1 := by rw [upd_ne _ _ (by omega), upd_eq]
  generalize upd (upd (upd w (96 + 2 * nB w) v) (96 + 2 * nB w + 1) (-1)) 6 (nI (nB w + 1)) = w' at o o6 on om ⊢
  have e4 : nA w' = nA w := by unfold nA; rw [o 4 (by omega) (by omega) (by omega)]
  have e5 : nH w' = nH w := by unfold nH; rw [o 5 (by omega) (by omega) (by omega)]
  have e6 : nB w' = nB w + 1 := by
    show (w' 6).toNatClampNeg = nB w + 1
    rw [o6, nI_clamp (by omega)]
  obtain ⟨⟨c0, c1, c2, c3, c4, c10, c12, c9⟩, d2, d3, d4, d5, d6⟩ := h1
  refine ⟨⟨⟨?_, ?_, ?_, ?_, ?_, ?_, ?_, ?_⟩, fun j hj => ?_, fun j hj => ?_, fun x hx2 => ?_, fun x hx2 => ?_, fun b hb2 => ?_⟩, ?_, ?_, fun b q1 q2 => ?_, fun j hj => ?_⟩
  · rw [sD_nj _ _ _ (by decide), sD_ne _ _ _ _ (by decide), o 0 (by omega) (by omega) (by omega)]; exact c0
  · rw [sD_nj _ _ _ (by decide), sD_ne _ _ _ _ (by decide), o 1 (by omega) (by omega) (by omega)]; exact c1
  · rw [sD_nj _ _ _ (by decide), sD_ne _ _ _ _ (by decide), o 2 (by omega) (by omega) (by omega)]; exact c2
  · rw [sD_nj _ _ _ (by decide), sD_ne _ _ _ _ (by decide), o 3 (by omega) (by omega) (by omega)]; exact c3
  · rw [sD_nj _ _ _ (by decide), sD_ne _ _ _ _ (by decide), o 7 (by omega) (by omega) (by omega)]; exact c4
  · rw [sD_nj _ _ _ (by decide), sD_ne _ _ _ _ (by decide), o 5 (by omega) (by omega) (by omega)]; exact c10
  · rw [sD_eq, o6]
  · rw [sD_ne _ _ _ _ (by decide), sD_ne _ _ _ _ (by decide), o 4 (by omega) (by omega) (by omega)]; exact c9
  · rw [sD_nr _ _ _ (show 4 + 1 ≠ 4 by decide), sD_nr _ _ _ (show 4 + 1 ≠ 17 by decide), sD_nr _ _ _ (show 4 + 2 ≠ 4 by decide), sD_nr _ _ _ (show 4 + 2 ≠ 17 by decide), sD_nr _ _ _ (show 4 + 3 ≠ 4 by decide), sD_nr _ _ _ (show 4 + 3 ≠ 17 by decide), o _ (by omega) (by omega) (by omega), o _ (by omega) (by omega) (by omega), o _ (by omega) (by omega) (by omega)]
    exact d2 j hj
  · rw [sD_nr _ _ _ (show 4 + 4 ≠ 4 by decide), sD_nr _ _ _ (show 4 + 4 ≠ 17 by decide), o _ (by omega) (by omega) (by omega)]
    exact d3 j hj
  · rw [e4] at hx2
    have z : ∀ c, 10 ≤ c → c ≤ 15 → sD (sD D 17 (nB w) v) 4 12 (nI (nB w + 1)) c = D c := fun c q1 q2 => by rw [sD_nr _ _ _ (by omega), sD_nr _ _ _ (by omega)]
    rw [z (4 + 6) (by omega) (by omega), z (4 + 7) (by omega) (by omega), z (4 + 8) (by omega) (by omega), z (4 + 9) (by omega) (by omega), z (4 + 10) (by omega) (by omega), z (4 + 11) (by omega) (by omega), o _ (by omega) (by omega) (by omega), o _ (by omega) (by omega) (by omega), o _ (by omega) (by omega) (by omega), o _ (by omega) (by omega) (by omega), o _ (by omega) (by omega) (by omega), o _ (by omega) (by omega) (by omega)]
    exact d4 x hx2
  · rw [e5] at hx2
    rw [sD_nr _ _ _ (show 4 + 12 ≠ 4 by decide), sD_nr _ _ _ (show 4 + 12 ≠ 17 by decide), o _ (by omega) (by omega) (by omega)]
    exact d5 x hx2
  · rw [e6] at hb2
    rw [sD_ne _ _ _ _ (show 4 + 13 ≠ 4 by decide), sD_nr _ _ _ (show 4 + 14 ≠ 4 by decide), sD_nr _ _ _ (show 4 + 14 ≠ 17 by decide)]
    by_cases c : b = nB w
    · subst c
      rw [on, om]
      exact ⟨sD_eq _ _ _ _, h4 _ (Nat.le_refl _) h8⟩
    · rw [o _ (by omega) (by omega) (by omega), o _ (by omega) (by omega) (by omega)]
      exact ⟨(sD_nj _ _ _ c).trans (d6 b (by omega)).1, (d6 b (by omega)).2⟩
  · refine WF_grow h2 hP (a := nA w) (h := nH w) (b := nB w + 1) (n := nN w) hA hH (by omega) hN (wf_N14 h2) (Nat.le_refl _) (Nat.le_refl _) (fun i hi => o i (by omega) (by omega) (by omega)) (by rw [o 4 (by omega) (by omega) (by omega)]; exact wf_A h2) (by rw [o 5 (by omega) (by omega) (by omega)]; exact wf_H h2) o6 (by rw [o 7 (by omega) (by omega) (by omega)]; exact wf_N h2) (fun i q1 q2 => o i (by omega) (by omega) (by omega)) (fun x hx => Or.inl ⟨hx, fun j hj => o _ (by omega) (by omega) (by omega)⟩) (fun x hx => Or.inl ⟨hx, o _ (by omega) (by omega) (by omega)⟩) (fun x hx2 => ?_)
    by_cases c : x = nB w
    · subst c
      unfold ti
      rw [on, om]
      exact Or.inr ⟨hv.1, hv.2, rfl⟩
    · exact Or.inl ⟨by omega, o _ (by omega) (by omega) (by omega), o _ (by omega) (by omega) (by omega)⟩
  · exact UQ_c h3 e4 (fun x hx => ⟨o _ (by omega) (by omega) (by omega), o _ (by omega) (by omega) (by omega), o _ (by omega) (by omega) (by omega)⟩)
  · rw [e6] at q1
    rw [sD_ne _ _ _ _ (by decide), sD_ne _ _ _ _ (by decide)]
    exact h4 b (by omega) q2
  · rw [o _ (by omega) (by omega) (by omega)]
    exact h5 j hj
end DG
