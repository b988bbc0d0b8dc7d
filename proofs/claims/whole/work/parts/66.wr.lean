/-! ===== a church that is changed: both sides ===== -/
section WR
variable {D D' : mx_D} {w w' : W_} {F c : Nat}
/-- which cell of the class keeps which number of the world -/
def co (a h b o j k : Nat) : Prop :=
  (o = 0 ∧ j = 0 ∧ k = 0) ∨ (o = 0 ∧ j = 1 ∧ k = 1) ∨ (o = 0 ∧ j = 2 ∧ k = 2) ∨ (o = 0 ∧ j = 3 ∧ k = 3) ∨ (o = 0 ∧ j = 4 ∧ k = 7) ∨ (o = 0 ∧ j = 10 ∧ k = 5) ∨ (o = 0 ∧ j = 12 ∧ k = 6) ∨ (o = 5 ∧ j = 6 ∧ k = 4) ∨
  (o = 1 ∧ j < 4 ∧ k = 8 + 3 * j) ∨ (o = 2 ∧ j < 4 ∧ k = 8 + 3 * j + 1) ∨ (o = 3 ∧ j < 4 ∧ k = 8 + 3 * j + 2) ∨ (o = 4 ∧ j < 20 ∧ k = 20 + j) ∨
  (o = 6 ∧ j < a ∧ k = 40 + 6 * j) ∨ (o = 7 ∧ j < a ∧ k = 40 + 6 * j + 1) ∨ (o = 8 ∧ j < a ∧ k = 40 + 6 * j + 2) ∨ (o = 9 ∧ j < a ∧ k = 40 + 6 * j + 3) ∨ (o = 10 ∧ j < a ∧ k = 40 + 6 * j + 4) ∨ (o = 11 ∧ j < a ∧ k = 40 + 6 * j + 5) ∨
  (o = 12 ∧ j < h ∧ k = 88 + j) ∨ (o = 13 ∧ j < b ∧ k = 96 + 2 * j) ∨ (o = 14 ∧ j < b ∧ k = 96 + 2 * j + 1)
theorem CH_iff : CH D c w ↔ ∀ o j k, co (nA w) (nH w) (nB w) o j k → D (c + o) j = w k := by
  constructor
  · rintro ⟨⟨a1, a2, a3, a4, a5, a6, a7, a8⟩, h2, h3, h4, h5, h6⟩ o j k hc
    rcases hc with ⟨rfl, rfl, rfl⟩ | ⟨rfl, rfl, rfl⟩ | ⟨rfl, rfl, rfl⟩ | ⟨rfl, rfl, rfl⟩ | ⟨rfl, rfl, rfl⟩ | ⟨rfl, rfl, rfl⟩ | ⟨rfl, rfl, rfl⟩ | ⟨rfl, rfl, rfl⟩ | ⟨rfl, hj, rfl⟩ | ⟨rfl, hj, rfl⟩ | ⟨rfl, hj, rfl⟩ | ⟨rfl, hj, rfl⟩ | ⟨rfl, hj, rfl⟩ | ⟨rfl, hj, rfl⟩ | ⟨rfl, hj, rfl⟩ | ⟨rfl, hj, rfl⟩ | ⟨rfl, hj, rfl⟩ | ⟨rfl, hj, rfl⟩ | ⟨rfl, hj, rfl⟩ | ⟨rfl, hj, rfl⟩ | ⟨rfl, hj, rfl⟩
    · exact a1
    · exact a2
    · exact a3
    · exact a4
    · exact a5
    · exact a6
    · exact a7
    · exact a8
    · exact (h2 j hj).1
    · exact (h2 j hj).2.1
    · exact (h2 j hj).2.2
    · exact h3 j hj
    · exact (h4 j hj).1
    · exact (h4 j hj).2.1
    · exact (h4 j hj).2.2.1
    · exact (h4 j hj).2.2.2.1
    · exact (h4 j hj).2.2.2.2.1
    · exact (h4 j hj).2.2.2.2.2
    · exact h5 j hj
    · exact (h6 j hj).1
    · exact (h6 j hj).2
  · intro h
    have g : ∀ o j k, co (nA w) (nH w) (nB w) o j k → D (c + o) j = w k := h
    refine ⟨⟨g 0 0 0 (Or.inl ⟨rfl, rfl, rfl⟩), g 0 1 1 (Or.inr (Or.inl ⟨rfl, rfl, rfl⟩)), g 0 2 2 (Or.inr (Or.inr (Or.inl ⟨rfl, rfl, rfl⟩))), g 0 3 3 (Or.inr (Or.inr (Or.inr (Or.inl ⟨rfl, rfl, rfl⟩)))), g 0 4 7 (Or.inr (Or.inr (Or.inr (Or.inr (Or.inl ⟨rfl, rfl, rfl⟩))))), g 0 10 5 (Or.inr (Or.inr (Or.inr (Or.inr (Or.inr (Or.inl ⟨rfl, rfl, rfl⟩)))))), g 0 12 6 (Or.inr (Or.inr (Or.inr (Or.inr (Or.inr (Or.inr (Or.inl ⟨rfl, rfl, rfl⟩))))))), g 5 6 4 (Or.inr (Or.inr (Or.inr (Or.inr (Or.inr (Or.inr (Or.inr (Or.inl ⟨rfl, rfl, rfl⟩))))))))⟩, fun j hj => ⟨g 1 j _ (Or.inr (Or.inr (Or.inr (Or.inr (Or.inr (Or.inr (Or.inr (Or.inr (Or.inl ⟨rfl, hj, rfl⟩))))))))), g 2 j _ (Or.inr (Or.inr (Or.inr (Or.inr (Or.inr (Or.inr (Or.inr (Or.inr (Or.inr (Or.inl ⟨rfl, hj, rfl⟩)))))))))), g 3 j _ (Or.inr (Or.inr (Or.inr (Or.inr (Or.inr (Or.inr (Or.inr (Or.inr (Or.inr (Or.inr (Or.inl ⟨rfl, hj, rfl⟩)))))))))))⟩, fun j hj => g 4 j _ (Or.inr (Or.inr (Or.inr (Or.inr (Or.inr (Or.inr (Or.inr (Or.inr (Or.inr (Or.inr (Or.inr (Or.inl ⟨rfl, hj, rfl⟩)))))))))))), fun x hx => ⟨g 6 x _ (Or.inr (Or.inr (Or.inr (Or.inr (Or.inr (Or.inr (Or.inr (Or.inr (Or.inr (Or.inr (Or.inr (Or.inr (Or.inl ⟨rfl, hx, rfl⟩))))))))))))), g 7 x _ (Or.inr (Or.inr (Or.inr (Or.inr (Or.inr (Or.inr (Or.inr (Or.inr (Or.inr (Or.inr (Or.inr (Or.inr (Or.inr (Or.inl ⟨rfl, hx, rfl⟩)))))))))))))), g 8 x _ (Or.inr (Or.inr (Or.inr (Or.inr (Or.inr (Or.inr (Or.inr (Or.inr (Or.inr (Or.inr (Or.inr (Or.inr (Or.inr (Or.inr (Or.inl ⟨rfl, hx, rfl⟩))))))))))))))), g 9 x _ (Or.inr (Or.inr (Or.inr (Or.inr (Or.inr (Or.inr (Or.inr (Or.inr (Or.inr (Or.inr (Or.inr (Or.inr (Or.inr (Or.inr (Or.inr (Or.inl ⟨rfl, hx, rfl⟩)))))))))))))))), g 10 x _ (Or.inr (Or.inr (Or.inr (Or.inr (Or.inr (Or.inr (Or.inr (Or.inr (Or.inr (Or.inr (Or.inr (Or.inr (Or.inr (Or.inr (Or.inr (Or.inr (Or.inl ⟨rfl, hx, rfl⟩))))))))))))))))), g 11 x _ (Or.inr (Or.inr (Or.inr (Or.inr (Or.inr (Or.inr (Or.inr (Or.inr (Or.inr (Or.inr (Or.inr (Or.inr (Or.inr (Or.inr (Or.inr (Or.inr (Or.inr (Or.inl ⟨rfl, hx, rfl⟩))))))))))))))))))⟩, fun x hx => g 12 x _ (Or.inr (Or.inr (Or.inr (Or.inr (Or.inr (Or.inr (Or.inr (Or.inr (Or.inr (Or.inr (Or.inr (Or.inr (Or.inr (Or.inr (Or.inr (Or.inr (Or.inr (Or.inr (Or.inl ⟨rfl, hx, rfl⟩))))))))))))))))))), fun b hb => ⟨g 13 b _ (Or.inr (Or.inr (Or.inr (Or.inr (Or.inr (Or.inr (Or.inr (Or.inr (Or.inr (Or.inr (Or.inr (Or.inr (Or.inr (Or.inr (Or.inr (Or.inr (Or.inr (Or.inr (Or.inr (Or.inl ⟨rfl, hb, rfl⟩)))))))))))))))))))), g 14 b _ (Or.inr (Or.inr (Or.inr (Or.inr (Or.inr (Or.inr (Or.inr (Or.inr (Or.inr (Or.inr (Or.inr (Or.inr (Or.inr (Or.inr (Or.inr (Or.inr (Or.inr (Or.inr (Or.inr (Or.inr ⟨rfl, hb, rfl⟩))))))))))))))))))))⟩⟩
theorem co_inj {a h b o j k o2 j2 : Nat} (ha : a ≤ 8) (hh : h ≤ 8) (hb : b ≤ 5) (h1 : co a h b o j k) (h2 : co a h b o2 j2 k) : o = o2 ∧ j = j2 := by
  unfold co at h1 h2
  rcases h1 with ⟨ha1, ha2, ha3⟩ | ⟨ha1, ha2, ha3⟩ | ⟨ha1, ha2, ha3⟩ | ⟨ha1, ha2, ha3⟩ | ⟨ha1, ha2, ha3⟩ | ⟨ha1, ha2, ha3⟩ | ⟨ha1, ha2, ha3⟩ | ⟨ha1, ha2, ha3⟩ | ⟨ha1, ha2, ha3⟩ | ⟨ha1, ha2, ha3⟩ | ⟨ha1, ha2, ha3⟩ | ⟨ha1, ha2, ha3⟩ | ⟨ha1, ha2, ha3⟩ | ⟨ha1, ha2, ha3⟩ | ⟨ha1, ha2, ha3⟩ | ⟨ha1, ha2, ha3⟩ | ⟨ha1, ha2, ha3⟩ | ⟨ha1, ha2, ha3⟩ | ⟨ha1, ha2, ha3⟩ | ⟨ha1, ha2, ha3⟩ | ⟨ha1, ha2, ha3⟩ <;> rcases h2 with ⟨hr, hs, ht⟩ | ⟨hr, hs, ht⟩ | ⟨hr, hs, ht⟩ | ⟨hr, hs, ht⟩ | ⟨hr, hs, ht⟩ | ⟨hr, hs, ht⟩ | ⟨hr, hs, ht⟩ | ⟨hr, hs, ht⟩ | ⟨hr, hs, ht⟩ | ⟨hr, hs, ht⟩ | ⟨hr, hs, ht⟩ | ⟨hr, hs, ht⟩ | ⟨hr, hs, ht⟩ | ⟨hr, hs, ht⟩ | ⟨hr, hs, ht⟩ | ⟨hr, hs, ht⟩ | ⟨hr, hs, ht⟩ | ⟨hr, hs, ht⟩ | ⟨hr, hs, ht⟩ | ⟨hr, hs, ht⟩ | ⟨hr, hs, ht⟩ <;> omega
theorem co_fun {a h b o j k k2 : Nat} (h1 : co a h b o j k) (h2 : co a h b o j k2) : k = k2 := by
  unfold co at h1 h2
  rcases h1 with ⟨ha1, ha2, ha3⟩ | ⟨ha1, ha2, ha3⟩ | ⟨ha1, ha2, ha3⟩ | ⟨ha1, ha2, ha3⟩ | ⟨ha1, ha2, ha3⟩ | ⟨ha1, ha2, ha3⟩ | ⟨ha1, ha2, ha3⟩ | ⟨ha1, ha2, ha3⟩ | ⟨ha1, ha2, ha3⟩ | ⟨ha1, ha2, ha3⟩ | ⟨ha1, ha2, ha3⟩ | ⟨ha1, ha2, ha3⟩ | ⟨ha1, ha2, ha3⟩ | ⟨ha1, ha2, ha3⟩ | ⟨ha1, ha2, ha3⟩ | ⟨ha1, ha2, ha3⟩ | ⟨ha1, ha2, ha3⟩ | ⟨ha1, ha2, ha3⟩ | ⟨ha1, ha2, ha3⟩ | ⟨ha1, ha2, ha3⟩ | ⟨ha1, ha2, ha3⟩ <;> rcases h2 with ⟨hr, hs, ht⟩ | ⟨hr, hs, ht⟩ | ⟨hr, hs, ht⟩ | ⟨hr, hs, ht⟩ | ⟨hr, hs, ht⟩ | ⟨hr, hs, ht⟩ | ⟨hr, hs, ht⟩ | ⟨hr, hs, ht⟩ | ⟨hr, hs, ht⟩ | ⟨hr, hs, ht⟩ | ⟨hr, hs, ht⟩ | ⟨hr, hs, ht⟩ | ⟨hr, hs, ht⟩ | ⟨hr, hs, ht⟩ | ⟨hr, hs, ht⟩ | ⟨hr, hs, ht⟩ | ⟨hr, hs, ht⟩ | ⟨hr, hs, ht⟩ | ⟨hr, hs, ht⟩ | ⟨hr, hs, ht⟩ | ⟨hr, hs, ht⟩ <;> omega
theorem CH_upd (hW : WF w) (hC : CH D c w) {o j k : Nat} (hc : co (nA w) (nH w) (nB w) o j k) (hk : k ≠ 4 ∧ k ≠ 5 ∧ k ≠ 6) (v : Int32) : CH (sD D (c + o) j v) c (upd w k v) := by
  have eA : nA (upd w k v) = nA w := by unfold nA; rw [upd_ne _ _ (by omega)]
  have eH : nH (upd w k v) = nH w := by unfold nH; rw [upd_ne _ _ (by omega)]
  have eB : nB (upd w k v) = nB w := by unfold nB; rw [upd_ne _ _ (by omega)]
  rw [CH_iff] at hC ⊢
  intro o2 j2 k2 h2
  rw [eA, eH, eB] at h2
  by_cases e : k2 = k
  · subst e
    obtain ⟨rfl, rfl⟩ := co_inj (wf_A8 hW) (wf_H8 hW) (wf_B5 hW) hc h2
    rw [sD_eq, upd_eq]
  · rw [upd_ne _ _ e]
    by_cases eo : o2 = o
    · subst eo
      have ej : j2 ≠ j := fun q => by subst q; exact e (co_fun h2 hc)
      rw [sD_nj _ _ _ ej]
      exact hC _ _ _ h2
    · rw [sD_ne _ _ _ _ (by omega)]
      exact hC _ _ _ h2
/-! the parts of WF -/
theorem ti_c {i : Nat} (h : w' i = w i) : ti w' i = ti w i := by unfold ti; rw [h]
theorem n_c (e : ∀ i, i < 8 → w' i = w i) : nP w' = nP w ∧ nL w' = nL w ∧ nV w' = nV w ∧ nA w' = nA w ∧ nH w' = nH w ∧ nB w' = nB w ∧ nN w' = nN w := by
  unfold nP nL nV nA nH nB nN
  rw [e 0 (by omega), e 1 (by omega), e 2 (by omega), e 4 (by omega), e 5 (by omega), e 6 (by omega), e 7 (by omega)]
  exact ⟨rfl, rfl, rfl, rfl, rfl, rfl, rfl⟩
/-- a world like another in its first numbers, its ups, and whose other parts hold -/
theorem WF_mk (hW : WF w) (e : ∀ i, i < 8 → w' i = w i)
    (h1 : ∀ j, j < 4 → -40 ≤ ti w' (8 + 3 * j) ∧ ti w' (8 + 3 * j) ≤ 40 ∧ 0 ≤ ti w' (8 + 3 * j + 2) ∧ ti w' (8 + 3 * j + 2) ≤ ti w' (8 + 3 * j + 1) ∧ ti w' (8 + 3 * j + 1) ≤ 9)
    (h2 : ∀ j, j < 20 → 0 ≤ ti w' (20 + j) ∧ ti w' (20 + j) ≤ 60)
    (h3 : ∀ x, x < nA w → w' (40 + 6 * x) = w (40 + 6 * x) ∧ w' (40 + 6 * x + 1) = w (40 + 6 * x + 1) ∧ w' (40 + 6 * x + 2) = w (40 + 6 * x + 2))
    (h4 : ∀ x, x < nA w → (w' (40 + 6 * x + 3) = -1 ∧ w' (40 + 6 * x + 4) = -1) ∨ (w' (40 + 6 * x + 3) = nI (pw w' x) ∧ pw w' x < nP w ∧ w' (40 + 6 * x + 4) = nI (pc w' x) ∧ pc w' x < nL w))
    (h5 : ∀ x, x < nA w → w' (40 + 6 * x + 5) = -1 ∨ (w' (40 + 6 * x + 5) = nI (ht w' x) ∧ ht w' x < nH w))
    (h6 : ∀ x, x < nH w → w' (88 + x) = w (88 + x)) (h7 : ∀ b, b < nB w → w' (96 + 2 * b) = w (96 + 2 * b))
    (h8 : ∀ b, b < nB w → w' (96 + 2 * b + 1) = -1 ∨ ∃ a, a < nA w ∧ w' (96 + 2 * b + 1) = nI a) : WF w' := by
  obtain ⟨e0, e1, e2, e4, e5, e6, e7⟩ := n_c e
  have g := hW
  obtain ⟨g1, g2, g3, g4, g5, g6, g7, g8, g9, -, -, g12, -, -, g15, g16, -⟩ := g
  refine ⟨?_, ?_, ?_, ?_, ?_, ?_, ?_, ?_, ?_, h1, h2, ?_, ?_, ?_, ?_, ?_, ?_⟩
  · rw [e0, e 0 (by omega)]; exact g1
  · rw [e1, e 1 (by omega)]; exact g2
  · rw [e2, e 2 (by omega)]; exact g3
  · rw [e 3 (by omega)]; exact g4
  · rw [e4, e 4 (by omega)]; exact g5
  · rw [e5, e 5 (by omega)]; exact g6
  · rw [e6, e 6 (by omega)]; exact g7
  · rw [e7, e 7 (by omega)]; exact g8
  · rw [e0, e7, e1, e4, e5, e6]; exact g9
  · intro x hx
    rw [e4] at hx
    obtain ⟨q1, q2, q3⟩ := h3 x hx
    rw [ti_c q1, ti_c q2, ti_c q3]
    exact g12 x hx
  · intro x hx
    rw [e4] at hx
    rw [e0, e1]
    exact h4 x hx
  · intro x hx
    rw [e4] at hx
    rw [e5]
    exact h5 x hx
  · intro x hx
    rw [e5] at hx
    rw [ti_c (h6 x hx)]
    exact g15 x hx
  · intro b hb
    rw [e6] at hb
    rw [ti_c (h7 b hb)]
    exact g16 b hb
  · intro b hb
    rw [e6] at hb
    rw [e4]
    exact h8 b hb
theorem h1_c (hW : WF w) (e : ∀ i, 8 ≤ i → i < 20 → w' i = w i) : ∀ j, j < 4 → -40 ≤ ti w' (8 + 3 * j) ∧ ti w' (8 + 3 * j) ≤ 40 ∧ 0 ≤ ti w' (8 + 3 * j + 2) ∧ ti w' (8 + 3 * j + 2) ≤ ti w' (8 + 3 * j + 1) ∧ ti w' (8 + 3 * j + 1) ≤ 9 := fun j hj => by
  rw [ti_c (e _ (by omega) (by omega)), ti_c (e _ (by omega) (by omega)), ti_c (e _ (by omega) (by omega))]
  exact wf_up hW hj
theorem h2_c (hW : WF w) (e : ∀ i, 20 ≤ i → i < 40 → w' i = w i) : ∀ j, j < 20 → 0 ≤ ti w' (20 + j) ∧ ti w' (20 + j) ≤ 60 := fun j hj => by
  rw [ti_c (e _ (by omega) (by omega))]
  exact wf_tr hW hj
theorem h4_c (hW : WF w) {x : Nat} (hx : x < nA w) (e : w' (40 + 6 * x + 3) = w (40 + 6 * x + 3)) (e2 : w' (40 + 6 * x + 4) = w (40 + 6 * x + 4)) : (w' (40 + 6 * x + 3) = -1 ∧ w' (40 + 6 * x + 4) = -1) ∨ (w' (40 + 6 * x + 3) = nI (pw w' x) ∧ pw w' x < nP w ∧ w' (40 + 6 * x + 4) = nI (pc w' x) ∧ pc w' x < nL w) := by
  unfold pw pc
  rw [e, e2]
  exact wf_st hW hx
theorem h5_c (hW : WF w) {x : Nat} (hx : x < nA w) (e : w' (40 + 6 * x + 5) = w (40 + 6 * x + 5)) : w' (40 + 6 * x + 5) = -1 ∨ (w' (40 + 6 * x + 5) = nI (ht w' x) ∧ ht w' x < nH w) := by
  unfold ht
  rw [e]
  exact wf_ht hW hx
theorem h8_c (hW : WF w) {b : Nat} (hb : b < nB w) (e : w' (96 + 2 * b + 1) = w (96 + 2 * b + 1)) : w' (96 + 2 * b + 1) = -1 ∨ ∃ a, a < nA w ∧ w' (96 + 2 * b + 1) = nI a := by
  rw [e]
  exact wf_so hW hb
/-- level, the sawn, a trench, one's book, one's hat -/
theorem WF_sawn (hW : WF w) {p : Nat} (hp : p < 4) {v : Int32} (hv : 0 ≤ v.toInt ∧ v.toInt ≤ ti w (8 + 3 * p + 1)) : WF (upd w (8 + 3 * p + 2) v) := by
  refine WF_mk hW (fun i hi => upd_ne _ _ (by omega)) (fun j hj => ?_) (h2_c hW (fun i q1 q2 => upd_ne _ _ (by omega))) (fun x hx => ⟨upd_ne _ _ (by omega), upd_ne _ _ (by omega), upd_ne _ _ (by omega)⟩) (fun x hx => h4_c hW hx (upd_ne _ _ (by omega)) (upd_ne _ _ (by omega))) (fun x hx => h5_c hW hx (upd_ne _ _ (by omega))) (fun x hx => upd_ne _ _ (by omega)) (fun b hb => upd_ne _ _ (by omega)) (fun b hb => h8_c hW hb (upd_ne _ _ (by omega)))
  have q := wf_up hW hj
  rw [ti_c (upd_ne w v (show 8 + 3 * j ≠ 8 + 3 * p + 2 by omega)), ti_c (upd_ne w v (show 8 + 3 * j + 1 ≠ 8 + 3 * p + 2 by omega))]
  by_cases e : j = p
  · subst e
    have : ti (upd w (8 + 3 * j + 2) v) (8 + 3 * j + 2) = v.toInt := by unfold ti; rw [upd_eq]
    rw [this]
    omega
  · rw [ti_c (upd_ne w v (show 8 + 3 * j + 2 ≠ 8 + 3 * p + 2 by omega))]
    exact q
theorem WF_tren (hW : WF w) {k : Nat} (hk : 20 ≤ k ∧ k < 40) {v : Int32} (hv : 0 ≤ v.toInt ∧ v.toInt ≤ 60) : WF (upd w k v) := by
  refine WF_mk hW (fun i hi => upd_ne _ _ (by omega)) (h1_c hW (fun i q1 q2 => upd_ne _ _ (by omega))) (fun j hj => ?_) (fun x hx => ⟨upd_ne _ _ (by omega), upd_ne _ _ (by omega), upd_ne _ _ (by omega)⟩) (fun x hx => h4_c hW hx (upd_ne _ _ (by omega)) (upd_ne _ _ (by omega))) (fun x hx => h5_c hW hx (upd_ne _ _ (by omega))) (fun x hx => upd_ne _ _ (by omega)) (fun b hb => upd_ne _ _ (by omega)) (fun b hb => h8_c hW hb (upd_ne _ _ (by omega)))
  by_cases e : 20 + j = k
  · subst e
    have : ti (upd w (20 + j) v) (20 + j) = v.toInt := by unfold ti; rw [upd_eq]
    rw [this]
    omega
  · rw [ti_c (upd_ne w v e)]
    exact wf_tr hW hj
theorem WF_hat (hW : WF w) {x : Nat} (hx : x < nA w) {v : Int32} (hv : v = -1 ∨ ∃ j, j < nH w ∧ v = nI j) : WF (upd w (40 + 6 * x + 5) v) := by
  have h8 := wf_A8 hW
  have h9 := wf_H8 hW
  refine WF_mk hW (fun i hi => upd_ne _ _ (by omega)) (h1_c hW (fun i q1 q2 => upd_ne _ _ (by omega))) (h2_c hW (fun i q1 q2 => upd_ne _ _ (by omega))) (fun z hz => ⟨upd_ne _ _ (by omega), upd_ne _ _ (by omega), upd_ne _ _ (by omega)⟩) (fun z hz => h4_c hW hz (upd_ne _ _ (by omega)) (upd_ne _ _ (by omega))) (fun z hz => ?_) (fun z hz => upd_ne _ _ (by omega)) (fun b hb => upd_ne _ _ (by omega)) (fun b hb => h8_c hW hb (upd_ne _ _ (by omega)))
  by_cases e : z = x
  · subst e
    unfold ht
    rw [upd_eq]
    rcases hv with rfl | ⟨j, hj, rfl⟩
    · exact Or.inl rfl
    · exact Or.inr ⟨by rw [nI_clamp (by omega)], by rw [nI_clamp (by omega)]; exact hj⟩
  · exact h5_c hW hz (upd_ne _ _ (by omega))
theorem WF_book (hW : WF w) {b : Nat} (hb : b < nB w) {v : Int32} (hv : v = -1 ∨ ∃ a, a < nA w ∧ v = nI a) : WF (upd w (96 + 2 * b + 1) v) := by
  have h8 := wf_A8 hW
  have h9 := wf_H8 hW
  refine WF_mk hW (fun i hi => upd_ne _ _ (by omega)) (h1_c hW (fun i q1 q2 => upd_ne _ _ (by omega))) (h2_c hW (fun i q1 q2 => upd_ne _ _ (by omega))) (fun z hz => ⟨upd_ne _ _ (by omega), upd_ne _ _ (by omega), upd_ne _ _ (by omega)⟩) (fun z hz => h4_c hW hz (upd_ne _ _ (by omega)) (upd_ne _ _ (by omega))) (fun z hz => h5_c hW hz (upd_ne _ _ (by omega))) (fun z hz => upd_ne _ _ (by omega)) (fun z hz => upd_ne _ _ (by omega)) (fun z hz => ?_)
  by_cases e : z = b
  · subst e
    rw [upd_eq]
    exact hv
  · exact h8_c hW hz (upd_ne _ _ (by omega))
/-- one sits elsewhere -/
def sea (w : W_) (x : Nat) (p i : Int32) : W_ := upd (upd w (40 + 6 * x + 3) p) (40 + 6 * x + 4) i
theorem sea_3 (w : W_) (x : Nat) (p i : Int32) : sea w x p i (40 + 6 * x + 3) = p := by
  unfold sea
  rw [upd_ne _ _ (by omega), upd_eq]
theorem sea_4 (w : W_) (x : Nat) (p i : Int32) : sea w x p i (40 + 6 * x + 4) = i := by
  unfold sea
  rw [upd_eq]
theorem sea_n (w : W_) (x : Nat) (p i : Int32) {k : Nat} (h : k ≠ 40 + 6 * x + 3 ∧ k ≠ 40 + 6 * x + 4) : sea w x p i k = w k := by
  unfold sea
  rw [upd_ne _ _ h.2, upd_ne _ _ h.1]
theorem WF_sea (hW : WF w) {x : Nat} (hx : x < nA w) {p i : Int32} (hv : (p = -1 ∧ i = -1) ∨ ∃ q k, q < nP w ∧ k < nL w ∧ p = nI q ∧ i = nI k) : WF (sea w x p i) := by
  have h8 := wf_A8 hW
  have h4 := wf_P4 hW
  have h5 := wf_L5 hW
  have h9 := wf_H8 hW
  refine WF_mk hW (fun i hi => sea_n _ _ _ _ (by omega)) (h1_c hW (fun i q1 q2 => sea_n _ _ _ _ (by omega))) (h2_c hW (fun i q1 q2 => sea_n _ _ _ _ (by omega))) (fun z hz => ⟨sea_n _ _ _ _ (by omega), sea_n _ _ _ _ (by omega), sea_n _ _ _ _ (by omega)⟩) (fun z hz => ?_) (fun z hz => h5_c hW hz (sea_n _ _ _ _ (by omega))) (fun z hz => sea_n _ _ _ _ (by omega)) (fun z hz => sea_n _ _ _ _ (by omega)) (fun z hz => h8_c hW hz (sea_n _ _ _ _ (by omega)))
  by_cases e : z = x
  · subst e
    unfold pw pc
    rw [sea_3, sea_4]
    rcases hv with ⟨rfl, rfl⟩ | ⟨q, k, hq, hk, rfl, rfl⟩
    · exact Or.inl ⟨rfl, rfl⟩
    · exact Or.inr ⟨by rw [nI_clamp (by omega)], by rw [nI_clamp (by omega)]; exact hq, by rw [nI_clamp (by omega)], by rw [nI_clamp (by omega)]; exact hk⟩
  · exact h4_c hW hz (sea_n _ _ _ _ (by omega)) (sea_n _ _ _ _ (by omega))
theorem UQ_c (hU : UQ w) (e4 : nA w' = nA w) (e : ∀ x, x < nA w → w' (40 + 6 * x + 3) = w (40 + 6 * x + 3) ∧ w' (40 + 6 * x + 4) = w (40 + 6 * x + 4) ∧ w' (40 + 6 * x + 5) = w (40 + 6 * x + 5)) : UQ w' := by
  obtain ⟨u1, u2⟩ := hU
  refine ⟨fun x y hx hy => ?_, fun x y hx hy => ?_⟩
  · rw [e4] at hx hy
    rw [(e x hx).2.2, (e y hy).2.2]
    exact u1 x y hx hy
  · rw [e4] at hx hy
    rw [(e x hx).1, (e y hy).1, (e x hx).2.1, (e y hy).2.1]
    exact u2 x y hx hy
/-- the whole tie, when church and world alone have changed -/
theorem RL_w {E E' : mx_E} (h : RL D E) (hW : WF (D' 117)) (hU : UQ (D' 117)) (hC : CC D' (D' 117)) (f : ∀ c, (c < 19 ∨ 33 < c) → (c < 34 ∨ 60 ≤ c) → c < 116 → D' c = D c) (f2 : D' 118 = D 118 ∧ D' 119 = D 119 ∧ D' 120 = D 120 ∧ D' 137 = D 137 ∧ D' 138 = D 138) (f3 : D' 116 5 = D 116 5 ∧ D' 116 12 = D 116 12 ∧ D' 116 13 = D 116 13) (g : ∀ c, c ≠ 116 → c ≠ 140 → E' c = E c) : RL D' E' := by
  obtain ⟨h1, h2, h3, h4, h5, h6, h7⟩ := h
  obtain ⟨a3, a4, a5, a6, a7⟩ := f2
  obtain ⟨a8, a9, a10⟩ := f3
  have ei : ∀ k, img D' k = img D k := fun k => by
    unfold img
    rw [a3]
  refine ⟨hW, hU, hC, ?_, ?_, fun k hk => ?_, fun s hs => ?_⟩
  · obtain ⟨t, q1, q2, q3, q4⟩ := h4
    exact ⟨t, q1, by rw [f 1 (by omega) (by omega) (by omega)]; exact q2, by rw [a8]; exact q3, fun j hj => by rw [f 2 (by omega) (by omega) (by omega), a5]; exact q4 j hj⟩
  · rw [f 3 (by omega) (by omega) (by omega), a9, a10]
    exact h5
  · have q := h6 k hk
    unfold IM at q ⊢
    rw [f 61 (by omega) (by omega) (by omega), a4, ei]
    exact ⟨q.1, q.2.imp id (fun z => ⟨z.1, CH_of z.2.1 (fun k q1 q2 => f k (by omega) (by omega) (by omega)), z.2.2⟩)⟩
  · have q := h7 s hs
    unfold SL at q ⊢
    rw [f (108 + 2 * s) (by omega) (by omega) (by omega), a6, a7, g (109 + 2 * s) (by omega) (by omega), g 139 (by omega) (by omega)]
    exact q
end WR
