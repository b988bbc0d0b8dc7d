/-! ===== the church that is being read: the class's draft, the reference's fresh numbers ===== -/
section DR
variable {D D' : mx_D} {w w' : W_} {F : Nat}
/-- the draft's cells under the church's numbers -/
def sh (D : mx_D) : mx_D := fun c => D (c - 15)
theorem CC_sh (h : CH D 4 w) : CC (sh D) w := h
theorem seated_4 (a : Int32) : g_Church_isSeated_4 D a = g_Church_isSeated (sh D) a := rfl
theorem sitterAt_4 (F : Nat) (a b : Int32) : g_Church_sitterAt_4 F D a b = g_Church_sitterAt F (sh D) a b := rfl
theorem wearerOf_4 (F : Nat) (a : Int32) : g_Church_wearerOf_4 F D a = g_Church_wearerOf F (sh D) a := rfl
theorem hasPlace_4 (a b : Int32) : g_Church_hasPlace_4 D a b = g_Church_hasPlace (sh D) a b := rfl
theorem C_sitterAt_m1 (hF : 100 ≤ F) (h : CC D w) (hw : WF w) (i : Int32) : g_Church_sitterAt F D (-1) i = some (-1) := by
  have h8 := wf_A8 hw
  have h4 := wf_P4 hw
  unfold g_Church_sitterAt
  refine lu0 (fun f a => g_Church_sitterAt_2 F D f (-1) i (nI a)) (n := nA w) _ (by omega) (fun f a ha => ?_) (fun f => ?_)
  · rw [s_Church_sitterAt_2]
    unfold b_Church_sitterAt_2
    rw [c_24 h, wf_A hw, if_neg (nI_ge ha (by omega)), C_seat_s h hw ha, ob_some, rk_in (by omega) (by decide), nI_clamp (by omega), c_28 h ha, nI_add]
    simp only [b01_z]
    cases hs : st w a
    · rw [if_pos rfl]
    · rw [if_neg (by decide), (wf_sit hw ha hs).1, if_neg (nI_m1 (by have := (wf_sit hw ha hs).2.1; omega))]
  · rw [s_Church_sitterAt_2]
    unfold b_Church_sitterAt_2
    rw [c_24 h, wf_A hw, if_pos (nI_le (Nat.le_refl _) (by omega))]
theorem C_wearerOf_m1 (hF : 100 ≤ F) (h : CC D w) (hw : WF w) : g_Church_wearerOf F D (-1) = some (-1) := by
  have h8 := wf_A8 hw
  unfold g_Church_wearerOf
  refine lu0 (fun f a => g_Church_wearerOf_2 F D f (-1) (nI a)) (n := nA w) _ (by omega) (fun f a ha => ?_) (fun f => ?_)
  · rw [s_Church_wearerOf_2]
    unfold b_Church_wearerOf_2
    rw [c_24 h, wf_A hw, if_neg (nI_ge ha (by omega)), if_pos rfl, nI_add]
  · rw [s_Church_wearerOf_2]
    unfold b_Church_wearerOf_2
    rw [c_24 h, wf_A hw, if_pos (nI_le (Nat.le_refl _) (by omega))]
def DT (D : mx_D) (w : W_) : Prop := CH D 4 w ∧ WF w ∧ UQ w ∧ (∀ b, nB w ≤ b → b < 5 → D 18 b = -1) ∧ ∀ j, j < 4 → w (8 + 3 * j + 2) = nI 0
theorem DT_x {D1 : mx_D} (h : DT D w) (e : ∀ c, 4 ≤ c → c ≤ 18 → D1 c = D c) : DT D1 w := by
  obtain ⟨h1, h2, h3, h4, h5⟩ := h
  exact ⟨CH_of h1 (fun k q1 q2 => e k q1 (by omega)), h2, h3, fun b q1 q2 => by rw [e 18 (by decide) (by decide)]; exact h4 b q1 q2, h5⟩
/-- a world with more people, hats, books -/
theorem WF_grow (hW : WF w) (hP : 0 < nP w) {a h b n : Nat} (ha : a ≤ 8) (hh : h ≤ 8) (hb : b ≤ 5) (hn : 0 < n) (hn2 : n ≤ 1400) (ha2 : nA w ≤ a) (hh2 : nH w ≤ h) (e : ∀ i, i < 4 → w' i = w i) (e4 : w' 4 = nI a) (e5 : w' 5 = nI h) (e6 : w' 6 = nI b) (e7 : w' 7 = nI n) (e8 : ∀ i, 8 ≤ i → i < 40 → w' i = w i)
    (p : ∀ x, x < a → (x < nA w ∧ ∀ j, j < 6 → w' (40 + 6 * x + j) = w (40 + 6 * x + j)) ∨ ((100 ≤ ti w' (40 + 6 * x) ∧ ti w' (40 + 6 * x) ≤ 220 ∧ 0 ≤ ti w' (40 + 6 * x + 1) ∧ ti w' (40 + 6 * x + 1) ≤ 9 ∧ 0 ≤ ti w' (40 + 6 * x + 2) ∧ ti w' (40 + 6 * x + 2) ≤ 9) ∧ w' (40 + 6 * x + 3) = -1 ∧ w' (40 + 6 * x + 4) = -1 ∧ w' (40 + 6 * x + 5) = -1))
    (q : ∀ x, x < h → (x < nH w ∧ w' (88 + x) = w (88 + x)) ∨ (0 ≤ ti w' (88 + x) ∧ ti w' (88 + x) ≤ 30))
    (s : ∀ x, x < b → (x < nB w ∧ w' (96 + 2 * x) = w (96 + 2 * x) ∧ w' (96 + 2 * x + 1) = w (96 + 2 * x + 1)) ∨ (1 ≤ ti w' (96 + 2 * x) ∧ ti w' (96 + 2 * x) ≤ 30 ∧ w' (96 + 2 * x + 1) = -1)) : WF w' := by
  have t0 : nP w' = nP w := by unfold nP; rw [e 0 (by omega)]
  have t1 : nL w' = nL w := by unfold nL; rw [e 1 (by omega)]
  have t2 : nV w' = nV w := by unfold nV; rw [e 2 (by omega)]
  have t4 : nA w' = a := by unfold nA; rw [e4, nI_clamp (by omega)]
  have t5 : nH w' = h := by unfold nH; rw [e5, nI_clamp (by omega)]
  have t6 : nB w' = b := by unfold nB; rw [e6, nI_clamp (by omega)]
  have t7 : nN w' = n := by unfold nN; rw [e7, nI_clamp (by omega)]
  have g := hW
  obtain ⟨g1, g2, g3, g4, g5, g6, g7, g8, g9, g10, g11, g12, g13, g14, g15, g16, g17⟩ := g
  refine ⟨?_, ?_, ?_, ?_, ?_, ?_, ?_, ?_, ?_, ?_, ?_, ?_, ?_, ?_, ?_, ?_, ?_⟩
  · rw [t0, e 0 (by omega)]; exact g1
  · rw [t1, e 1 (by omega)]; exact g2
  · rw [t2, e 2 (by omega)]; exact g3
  · rw [e 3 (by omega)]; exact g4
  · rw [t4, e4]; exact ⟨rfl, ha⟩
  · rw [t5, e5]; exact ⟨rfl, hh⟩
  · rw [t6, e6]; exact ⟨rfl, hb⟩
  · rw [t7, e7]; exact ⟨rfl, hn2⟩
  · rw [t0, t7, t1, t4, t5, t6]
    exact ⟨⟨fun _ => hn, fun _ => hP⟩, g9.2.1, fun _ => hP, fun _ => hP, fun _ => hP⟩
  · intro j hj
    rw [ti_c (e8 _ (by omega) (by omega)), ti_c (e8 _ (by omega) (by omega)), ti_c (e8 _ (by omega) (by omega))]
    exact g10 j hj
  · intro j hj
    rw [ti_c (e8 _ (by omega) (by omega))]
    exact g11 j hj
  · intro x hx
    rw [t4] at hx
    rcases p x hx with ⟨p1, p2⟩ | ⟨p1, p2⟩
    · have p20 : w' (40 + 6 * x) = w (40 + 6 * x) := p2 0 (by omega)
      rw [ti_c p20, ti_c (p2 1 (by omega)), ti_c (p2 2 (by omega))]
      exact g12 x p1
    · exact p1
  · intro x hx
    rw [t4] at hx
    rcases p x hx with ⟨p1, p2⟩ | ⟨p1, p2, p3, p4⟩
    · unfold pw pc
      rw [p2 3 (by omega), p2 4 (by omega), t0, t1]
      exact g13 x p1
    · exact Or.inl ⟨p2, p3⟩
  · intro x hx
    rw [t4] at hx
    rcases p x hx with ⟨p1, p2⟩ | ⟨p1, p2, p3, p4⟩
    · unfold ht
      rw [p2 5 (by omega), t5]
      rcases g14 x p1 with z | ⟨z1, z2⟩
      · exact Or.inl z
      · exact Or.inr ⟨z1, Nat.lt_of_lt_of_le z2 hh2⟩
    · exact Or.inl p4
  · intro x hx
    rw [t5] at hx
    rcases q x hx with ⟨p1, p2⟩ | p1
    · rw [ti_c p2]
      exact g15 x p1
    · exact p1
  · intro x hx
    rw [t6] at hx
    rcases s x hx with ⟨p1, p2, p3⟩ | ⟨p1, p2, p3⟩
    · rw [ti_c p2]
      exact g16 x p1
    · exact ⟨p1, p2⟩
  · intro x hx
    rw [t6] at hx
    rcases s x hx with ⟨p1, p2, p3⟩ | ⟨p1, p2, p3⟩
    · rw [p3, t4]
      rcases g17 x p1 with z | ⟨z, z1, z2⟩
      · exact Or.inl z
      · exact Or.inr ⟨z, Nat.lt_of_lt_of_le z1 ha2, z2⟩
    · exact Or.inl p3
theorem UQ_grow (hU : UQ w) {a : Nat} (e4 : nA w' = a) (p : ∀ x, x < a → (x < nA w ∧ ∀ j, j < 6 → w' (40 + 6 * x + j) = w (40 + 6 * x + j)) ∨ (w' (40 + 6 * x + 3) = -1 ∧ w' (40 + 6 * x + 5) = -1)) : UQ w' := by
  obtain ⟨u1, u2⟩ := hU
  refine ⟨fun x y hx hy h1 h2 => ?_, fun x y hx hy h1 h2 h3 => ?_⟩
  · rw [e4] at hx hy
    rcases p x hx with ⟨p1, p2⟩ | ⟨p1, p2⟩
    · rcases p y hy with ⟨q1, q2⟩ | ⟨q1, q2⟩
      · rw [p2 5 (by omega), q2 5 (by omega)] at h1
        rw [p2 5 (by omega)] at h2
        exact u1 x y p1 q1 h1 h2
      · exact absurd (h1.trans q2) h2
    · exact absurd p2 h2
  · rw [e4] at hx hy
    rcases p x hx with ⟨p1, p2⟩ | ⟨p1, p2⟩
    · rcases p y hy with ⟨q1, q2⟩ | ⟨q1, q2⟩
      · rw [p2 3 (by omega), q2 3 (by omega)] at h1
        rw [p2 4 (by omega), q2 4 (by omega)] at h2
        rw [p2 3 (by omega)] at h3
        exact u2 x y p1 q1 h1 h2 h3
      · exact absurd (h1.trans q1) h3
    · exact absurd p1 h3
/-- one more line -/
theorem DT_n7 (h : DT D w) (hP : 0 < nP w) (hn : nN w + 1 ≤ 1400) : DT (sD D 4 4 (D 4 4 + nI 1)) (upd w 7 (w 7 + nI 1)) := by
  obtain ⟨h1, h2, h3, h4, h5⟩ := h
  have e : w 7 + nI 1 = nI (nN w + 1) := by rw [wf_N h2, nI_add]
  have ed : D 4 4 + nI 1 = nI (nN w + 1) := by rw [h1.1.2.2.2.2.1, e]
  rw [e, ed]
  have o : ∀ i, i ≠ 7 → upd w 7 (nI (nN w + 1)) i = w i := fun i hi => upd_ne _ _ hi
  refine ⟨?_, ?_, UQ_c h3 (by unfold nA; rw [o 4 (by decide)]) (fun x hx => ⟨o _ (by omega), o _ (by omega), o _ (by omega)⟩), fun b q1 q2 => ?_, fun j hj => ?_⟩
  · exact CH_upd h2 h1 (o := 0) (j := 4) (k := 7) (Or.inr (Or.inr (Or.inr (Or.inr (Or.inl ⟨rfl, rfl, rfl⟩))))) (by decide) _
  · exact WF_grow h2 hP (wf_A8 h2) (wf_H8 h2) (wf_B5 h2) (Nat.succ_pos _) hn (Nat.le_refl _) (Nat.le_refl _) (fun i hi => o i (by omega)) (by rw [o 4 (by decide)]; exact wf_A h2) (by rw [o 5 (by decide)]; exact wf_H h2) (by rw [o 6 (by decide)]; exact wf_B h2) (upd_eq _ _ _) (fun i q1 q2 => o i (by omega)) (fun x hx => Or.inl ⟨hx, fun j hj => o _ (by omega)⟩) (fun x hx => Or.inl ⟨hx, o _ (by omega)⟩) (fun x hx => Or.inl ⟨hx, o _ (by omega), o _ (by omega)⟩)
  · have eB : nB (upd w 7 (nI (nN w + 1))) = nB w := by unfold nB; rw [o 6 (by decide)]
    rw [eB] at q1
    rw [sD_ne _ _ _ _ (by decide)]
    exact h4 b q1 q2
  · rw [o _ (by omega)]
    exact h5 j hj
theorem DT_pew (h : DT D w) {p : Nat} (hp : p < nP w) {u s : Int32} (hu : -40 ≤ u.toInt ∧ u.toInt ≤ 40) (hs : 0 ≤ s.toInt ∧ s.toInt ≤ 9) : DT (sD (sD D 5 p u) 6 p s) (upd (upd w (8 + 3 * p) u) (8 + 3 * p + 1) s) := by
  obtain ⟨h1, h2, h3, h4, h5⟩ := h
  have hp4 := wf_P4 h2
  have b1 := wf_A8 h2
  have b2 := wf_H8 h2
  have b3 := wf_B5 h2
  have o : ∀ i, i ≠ 8 + 3 * p → i ≠ 8 + 3 * p + 1 → upd (upd w (8 + 3 * p) u) (8 + 3 * p + 1) s i = w i := fun i q1 q2 => by rw [upd_ne _ _ q2, upd_ne _ _ q1]
  have eA : nA (upd w (8 + 3 * p) u) = nA w := by unfold nA; rw [upd_ne _ _ (by omega)]
  have eH : nH (upd w (8 + 3 * p) u) = nH w := by unfold nH; rw [upd_ne _ _ (by omega)]
  have eB : nB (upd w (8 + 3 * p) u) = nB w := by unfold nB; rw [upd_ne _ _ (by omega)]
  refine ⟨?_, ?_, UQ_c h3 (by unfold nA; rw [o 4 (by omega) (by omega)]) (fun x hx => ⟨o _ (by omega) (by omega), o _ (by omega) (by omega), o _ (by omega) (by omega)⟩), fun b q1 q2 => ?_, fun j hj => ?_⟩
  · have s1 := CH_upd h2 h1 (o := 1) (j := p) (k := 8 + 3 * p) (Or.inr (Or.inr (Or.inr (Or.inr (Or.inr (Or.inr (Or.inr (Or.inr (Or.inl ⟨rfl, by omega, rfl⟩))))))))) ⟨by omega, by omega, by omega⟩ u
    exact CH_upd2 (by omega) (by omega) (by omega) s1 (o := 2) (j := p) (k := 8 + 3 * p + 1) (Or.inr (Or.inr (Or.inr (Or.inr (Or.inr (Or.inr (Or.inr (Or.inr (Or.inr (Or.inl ⟨rfl, by omega, rfl⟩)))))))))) ⟨by omega, by omega, by omega⟩ s
  · refine WF_mk h2 (fun i hi => o i (by omega) (by omega)) (fun j hj => ?_) (h2_c h2 (fun i q1 q2 => o i (by omega) (by omega))) (fun x hx => ⟨o _ (by omega) (by omega), o _ (by omega) (by omega), o _ (by omega) (by omega)⟩) (fun x hx => h4_c h2 hx (o _ (by omega) (by omega)) (o _ (by omega) (by omega))) (fun x hx => h5_c h2 hx (o _ (by omega) (by omega))) (fun x hx => o _ (by omega) (by omega)) (fun b hb => o _ (by omega) (by omega)) (fun b hb => h8_c h2 hb (o _ (by omega) (by omega)))
    by_cases c : j = p
    · subst c
      have t0 : ti (upd (upd w (8 + 3 * j) u) (8 + 3 * j + 1) s) (8 + 3 * j) = u.toInt := by unfold ti; rw [upd_ne _ _ (by omega), upd_eq]
      have t1 : ti (upd (upd w (8 + 3 * j) u) (8 + 3 * j + 1) s) (8 + 3 * j + 1) = s.toInt := by unfold ti; rw [upd_eq]
      have t2 : ti (upd (upd w (8 + 3 * j) u) (8 + 3 * j + 1) s) (8 + 3 * j + 2) = 0 := by unfold ti; rw [o _ (by omega) (by omega), h5 j hj]; rfl
      omega
    · rw [ti_c (o _ (by omega) (by omega)), ti_c (o _ (by omega) (by omega)), ti_c (o _ (by omega) (by omega))]
      exact wf_up h2 hj
  · have eB2 : nB (upd (upd w (8 + 3 * p) u) (8 + 3 * p + 1) s) = nB w := by unfold nB; rw [o _ (by omega) (by omega)]
    rw [eB2] at q1
    rw [sD_ne _ _ _ _ (by decide), sD_ne _ _ _ _ (by decide)]
    exact h4 b q1 q2
  · rw [o _ (by omega) (by omega)]
    exact h5 j hj
theorem DT_tren (h : DT D w) {k : Nat} (hk : k < 20) {v : Int32} (hv : 0 ≤ v.toInt ∧ v.toInt ≤ 60) : DT (sD D 8 k v) (upd w (20 + k) v) := by
  obtain ⟨h1, h2, h3, h4, h5⟩ := h
  have o : ∀ i, i ≠ 20 + k → upd w (20 + k) v i = w i := fun i q => upd_ne _ _ q
  refine ⟨?_, WF_tren h2 ⟨by omega, by omega⟩ hv, UQ_c h3 (by unfold nA; rw [o 4 (by omega)]) (fun x hx => ⟨o _ (by omega), o _ (by omega), o _ (by omega)⟩), fun b q1 q2 => ?_, fun j hj => ?_⟩
  · exact CH_upd h2 h1 (o := 4) (j := k) (k := 20 + k) (Or.inr (Or.inr (Or.inr (Or.inr (Or.inr (Or.inr (Or.inr (Or.inr (Or.inr (Or.inr (Or.inr (Or.inl ⟨rfl, by omega, rfl⟩)))))))))))) ⟨by omega, by omega, by omega⟩ v
  · have eB : nB (upd w (20 + k) v) = nB w := by unfold nB; rw [o _ (by omega)]
    rw [eB] at q1
    rw [sD_ne _ _ _ _ (by decide)]
    exact h4 b q1 q2
  · rw [o _ (by omega)]
    exact h5 j hj
theorem DT_sea (h : DT D w) {x p i : Nat} (hx : x < nA w) (hp : p < nP w) (hi : i < nL w) (hf : sat w (nI p) (nI i) = -1) : DT (sD (sD D 13 x (nI p)) 14 x (nI i)) (sea w x (nI p) (nI i)) := by
  obtain ⟨h1, h2, h3, h4, h5⟩ := h
  have b1 := wf_A8 h2
  have b2 := wf_H8 h2
  have b3 := wf_B5 h2
  refine ⟨CC_sea b1 b2 b3 h1 hx (nI p) (nI i), WF_sea h2 hx (Or.inr ⟨p, i, hp, hi, rfl, rfl⟩), UQ_sea h3 b1 (Or.inr hf), fun b q1 q2 => ?_, fun j hj => ?_⟩
  · rw [(sea_A w x (nI p) (nI i)).2.2.1] at q1
    rw [sD_ne _ _ _ _ (by decide), sD_ne _ _ _ _ (by decide)]
    exact h4 b q1 q2
  · rw [sea_n _ _ _ _ (by omega)]
    exact h5 j hj
theorem DT_wears (h : DT D w) {x j : Nat} (hx : x < nA w) (hj : j < nH w) (hf : ∀ z, z < nA w → ¬ w (40 + 6 * z + 5) = nI j) : DT (sD D 15 x (nI j)) (upd w (40 + 6 * x + 5) (nI j)) := by
  obtain ⟨h1, h2, h3, h4, h5⟩ := h
  have b1 := wf_A8 h2
  have o : ∀ i, i ≠ 40 + 6 * x + 5 → upd w (40 + 6 * x + 5) (nI j) i = w i := fun i q => upd_ne _ _ q
  refine ⟨?_, WF_hat h2 hx (Or.inr ⟨j, hj, rfl⟩), ⟨fun y z hy hz q1 q2 => ?_, fun y z hy hz => ?_⟩, fun b q1 q2 => ?_, fun j hj => ?_⟩
  · exact CH_upd h2 h1 (o := 11) (j := x) (k := 40 + 6 * x + 5) (Or.inr (Or.inr (Or.inr (Or.inr (Or.inr (Or.inr (Or.inr (Or.inr (Or.inr (Or.inr (Or.inr (Or.inr (Or.inr (Or.inr (Or.inr (Or.inr (Or.inr (Or.inl ⟨rfl, hx, rfl⟩)))))))))))))))))) ⟨by omega, by omega, by omega⟩ (nI j)
  · have eA : nA (upd w (40 + 6 * x + 5) (nI j)) = nA w := by unfold nA; rw [o _ (by omega)]
    rw [eA] at hy hz
    by_cases cy : y = x
    · by_cases cz : z = x
      · omega
      · subst cy
        rw [upd_eq, o _ (by omega)] at q1
        exact absurd q1.symm (hf z hz)
    · by_cases cz : z = x
      · subst cz
        rw [o _ (by omega), upd_eq] at q1
        exact absurd q1 (hf y hy)
      · rw [o _ (by omega), o _ (by omega)] at q1
        rw [o _ (by omega)] at q2
        exact h3.1 y z hy hz q1 q2
  · have eA : nA (upd w (40 + 6 * x + 5) (nI j)) = nA w := by unfold nA; rw [o _ (by omega)]
    rw [eA] at hy hz
    rw [o _ (by omega), o _ (by omega), o _ (by omega), o _ (by omega)]
    exact h3.2 y z hy hz
  · have eB : nB (upd w (40 + 6 * x + 5) (nI j)) = nB w := by unfold nB; rw [o _ (by omega)]
    rw [eB] at q1
    rw [sD_ne _ _ _ _ (by decide)]
    exact h4 b q1 q2
  · rw [o _ (by omega)]
    exact h5 j hj
theorem DT_stands (h : DT D w) {b a : Nat} (hb : b < nB w) (ha : a < nA w) : DT (sD D 18 b (nI a)) (upd w (96 + 2 * b + 1) (nI a)) := by
  obtain ⟨h1, h2, h3, h4, h5⟩ := h
  have b1 := wf_A8 h2
  have o : ∀ i, i ≠ 96 + 2 * b + 1 → upd w (96 + 2 * b + 1) (nI a) i = w i := fun i q => upd_ne _ _ q
  refine ⟨?_, WF_book h2 hb (Or.inr ⟨a, ha, rfl⟩), UQ_c h3 (by unfold nA; rw [o 4 (by omega)]) (fun x hx => ⟨o _ (by omega), o _ (by omega), o _ (by omega)⟩), fun z q1 q2 => ?_, fun j hj => ?_⟩
  · exact CH_upd h2 h1 (o := 14) (j := b) (k := 96 + 2 * b + 1) (Or.inr (Or.inr (Or.inr (Or.inr (Or.inr (Or.inr (Or.inr (Or.inr (Or.inr (Or.inr (Or.inr (Or.inr (Or.inr (Or.inr (Or.inr (Or.inr (Or.inr (Or.inr (Or.inr (Or.inr ⟨rfl, hb, rfl⟩)))))))))))))))))))) ⟨by omega, by omega, by omega⟩ (nI a)
  · have eB : nB (upd w (96 + 2 * b + 1) (nI a)) = nB w := by unfold nB; rw [o _ (by omega)]
    rw [eB] at q1
    rw [sD_nj _ _ _ (by omega)]
    exact h4 z q1 q2
  · rw [o _ (by omega)]
    exact h5 j hj
end DR
