/-! ===== who sits, who wears ===== -/
section W2
variable {D : mx_D} {E : mx_E} {w w' : W_} {F : Nat}
theorem CH_upd2 {c : Nat} (b1 : nA w ≤ 8) (b2 : nH w ≤ 8) (b3 : nB w ≤ 5) (hC : CH D c w) {o j k : Nat} (hc : co (nA w) (nH w) (nB w) o j k) (hk : k ≠ 4 ∧ k ≠ 5 ∧ k ≠ 6) (v : Int32) : CH (sD D (c + o) j v) c (upd w k v) := by
  have eA : nA (upd w k v) = nA w := by unfold nA; rw [upd_ne _ _ (by omega)]
  have eH : nH (upd w k v) = nH w := by unfold nH; rw [upd_ne _ _ (by omega)]
  have eB : nB (upd w k v) = nB w := by unfold nB; rw [upd_ne _ _ (by omega)]
  rw [CH_iff] at hC ⊢
  intro o2 j2 k2 h2
  rw [eA, eH, eB] at h2
  by_cases e : k2 = k
  · subst e
    obtain ⟨rfl, rfl⟩ := co_inj b1 b2 b3 hc h2
    rw [sD_eq, upd_eq]
  · rw [upd_ne _ _ e]
    by_cases eo : o2 = o
    · subst eo
      have ej : j2 ≠ j := fun q => by subst q; exact e (co_fun h2 hc)
      rw [sD_nj _ _ _ ej]
      exact hC _ _ _ h2
    · rw [sD_ne _ _ _ _ (by omega)]
      exact hC _ _ _ h2
theorem sea_A (w : W_) (x : Nat) (p i : Int32) : nA (sea w x p i) = nA w ∧ nH (sea w x p i) = nH w ∧ nB (sea w x p i) = nB w ∧ nP (sea w x p i) = nP w ∧ nL (sea w x p i) = nL w := by
  unfold nA nH nB nP nL
  rw [sea_n _ _ _ _ (by omega), sea_n _ _ _ _ (by omega), sea_n _ _ _ _ (by omega), sea_n _ _ _ _ (by omega), sea_n _ _ _ _ (by omega)]
  exact ⟨rfl, rfl, rfl, rfl, rfl⟩
/-- the class's church, one sitting elsewhere -/
theorem CC_sea {c : Nat} (b1 : nA w ≤ 8) (b2 : nH w ≤ 8) (b3 : nB w ≤ 5) (hC : CH D c w) {x : Nat} (hx : x < nA w) (p i : Int32) : CH (sD (sD D (c + 9) x p) (c + 10) x i) c (sea w x p i) := by
  have h1 := CH_upd2 b1 b2 b3 hC (o := 9) (j := x) (k := 40 + 6 * x + 3) (by unfold co; exact Or.inr (Or.inr (Or.inr (Or.inr (Or.inr (Or.inr (Or.inr (Or.inr (Or.inr (Or.inr (Or.inr (Or.inr (Or.inr (Or.inr (Or.inr (Or.inl ⟨rfl, hx, rfl⟩)))))))))))))))) (by omega) p
  have eA : nA (upd w (40 + 6 * x + 3) p) = nA w := by unfold nA; rw [upd_ne _ _ (by omega)]
  have eH : nH (upd w (40 + 6 * x + 3) p) = nH w := by unfold nH; rw [upd_ne _ _ (by omega)]
  have eB : nB (upd w (40 + 6 * x + 3) p) = nB w := by unfold nB; rw [upd_ne _ _ (by omega)]
  exact CH_upd2 (by rw [eA]; exact b1) (by rw [eH]; exact b2) (by rw [eB]; exact b3) h1 (o := 10) (j := x) (k := 40 + 6 * x + 4) (by rw [eA, eH, eB]; unfold co; exact Or.inr (Or.inr (Or.inr (Or.inr (Or.inr (Or.inr (Or.inr (Or.inr (Or.inr (Or.inr (Or.inr (Or.inr (Or.inr (Or.inr (Or.inr (Or.inr (Or.inl ⟨rfl, hx, rfl⟩))))))))))))))))) (by omega) i
theorem M_put_s {x : Nat} (hx : x < 8) (p i : Int32) (D : mx_D) : g_M_put (nI x) p i D = some (sD (sD D 117 (40 + 6 * x + 3) p) 117 (40 + 6 * x + 4) i) := by
  unfold g_M_put g_M_set
  simp (disch := omega) only [nI_add, pk_mul, rk_in, nI_clamp, ob_some]
theorem put_117 {D1 : mx_D} (e : D1 117 = w) (x : Nat) (p i : Int32) : sD (sD D1 117 (40 + 6 * x + 3) p) 117 (40 + 6 * x + 4) i 117 = sea w x p i := by
  rw [sD_117, sD_117, e]
  rfl
/-- a store that is D but for the churches' cells and the world -/
theorem RL_c {D2 : mx_D} (h : RL D E) (hW : WF (D2 117)) (hU : UQ (D2 117)) (hC : CC D2 (D2 117)) (f : ∀ c, (c < 19 ∨ 33 < c) → c ≠ 117 → D2 c = D c) : RL D2 E :=
  RL_w h hW hU hC (fun c q1 q2 q3 => f c q1 (by omega)) ⟨f _ (by omega) (by omega), f _ (by omega) (by omega), f _ (by omega) (by omega), f _ (by omega) (by omega), f _ (by omega) (by omega)⟩ ⟨by rw [f 116 (by omega) (by omega)], by rw [f 116 (by omega) (by omega)], by rw [f 116 (by omega) (by omega)]⟩ (fun _ _ _ => rfl)
theorem sat_free {p i : Int32} (h : sat w p i = -1) (hn : nA w < 2 ^ 31) : ∀ z, z < nA w → ¬ (w (40 + 6 * z + 3) = p ∧ w (40 + 6 * z + 4) = i) := by
  unfold sat at h
  rcases ff_sp (fun x => decide (w (40 + 6 * x + 3) = p) && decide (w (40 + 6 * x + 4) = i)) (nA w) 0 with ⟨-, q⟩ | ⟨j, -, q1, -, -, q2⟩
  · intro z hz ⟨e1, e2⟩
    have := q z (by omega) (by omega)
    simp [e1, e2] at this
  · rw [q2] at h
    exact absurd h (nI_m1 (by omega))
theorem UQ_sea (hU : UQ w) {x : Nat} (hn : nA w ≤ 8) {p i : Int32} (hf : p = -1 ∨ sat w p i = -1) : UQ (sea w x p i) := by
  obtain ⟨u1, u2⟩ := hU
  have eA := (sea_A w x p i).1
  refine ⟨fun a b ha hb => ?_, fun a b ha hb => ?_⟩
  · rw [eA] at ha hb
    rw [sea_n _ _ _ _ (by omega), sea_n _ _ _ _ (by omega)]
    exact u1 a b ha hb
  · rw [eA] at ha hb
    intro e1 e2 e3
    by_cases c1 : a = x
    · by_cases c2 : b = x
      · omega
      · exfalso
        subst c1
        rw [sea_3] at e1 e3
        rw [sea_4] at e2
        rw [sea_n _ _ _ _ (by omega)] at e1 e2
        rcases hf with hf | hf
        · exact e3 hf
        · exact sat_free hf (by omega) b hb ⟨e1.symm, e2.symm⟩
    · by_cases c2 : b = x
      · exfalso
        subst c2
        rw [sea_3] at e1
        rw [sea_4] at e2
        rw [sea_n _ _ _ _ (by omega)] at e1 e2 e3
        rcases hf with hf | hf
        · rw [hf] at e1
          exact e3 e1
        · exact sat_free hf (by omega) a ha ⟨e1, e2⟩
      · rw [sea_n _ _ _ _ (by omega), sea_n _ _ _ _ (by omega)] at e1 e2
        rw [sea_n _ _ _ _ (by omega)] at e3
        exact u2 a b ha hb e1 e2 e3
theorem op_sits (hF : 1000 ≤ F) (h : RL D E) (a p i : Int32) : ∃ r D1 D2, g_X_sits F a p i D = some (r, D1) ∧ g_M_sits2 F a p i D1 = some (r, D2) ∧ RL D2 E := by
  have hW := h.1
  have hC := h.2.2.1
  have hU := h.2.1
  have h8 := wf_A8 hW
  have h4 := wf_P4 hW
  have h5 := wf_L5 hW
  have hH := wf_H8 hW
  have hB := wf_B5 hW
  unfold g_X_sits
  rw [C_hasPerson_s hC hW, C_hasPlace_s hC hW, b01_if, b01_if]
  rcases vx_c a (nA (D 117)) (by omega) with q | ⟨x, hx, rfl⟩
  · refine ⟨-2, D, D, by rw [q]; rfl, ?_, h⟩
    unfold g_M_sits2
    rw [M_isPerson_s hW, q, b01_if]
    rfl
  · rw [vx_nI (by omega), decide_eq_true hx, if_pos rfl]
    -- the seat that is taken from now on: p, i2
    have good : ∀ i2, (if p = -1 then i2 = -1 else i2 = i) → ((p = -1 ∧ i2 = -1) ∨ ∃ q k, q < nP (D 117) ∧ k < nL (D 117) ∧ p = nI q ∧ i2 = nI k) → (p = -1 ∨ sat (D 117) p i2 = -1) → ∃ r D1 D2, b_X_sits_47 F (nI x) p i D = some (r, D1) ∧ b_M_sits2_37 F (nI x) p i D1 = some (r, D2) ∧ RL D2 E ∧ D1 117 = D 117 := by
      intro i2 hi2 hv hf
      have e89 : ∀ s0, b_X_sits_89 F (nI x) p i s0 D = some (s0, sD (sD D 28 x p) 29 x i2) := by
        intro s0
        unfold b_X_sits_89
        rw [rk_in (by omega) (by decide), rk_in (by omega) (by decide), rk_in (by omega) (by decide), nI_clamp (by omega)]
        by_cases c : p = -1
        · rw [if_pos c] at hi2
          rw [if_pos c, hi2]
        · rw [if_neg c] at hi2
          rw [if_neg c, hi2]
      have e1 : sD (sD D 28 x p) 29 x i2 117 = D 117 := by rw [sD_nr _ _ _ (by decide), sD_nr _ _ _ (by decide)]
      have e65 : ∀ s0, b_M_sits2_65 F (nI x) p i s0 (sD (sD D 28 x p) 29 x i2) = some (s0, sD (sD (sD (sD D 28 x p) 29 x i2) 117 (40 + 6 * x + 3) p) 117 (40 + 6 * x + 4) i2) := by
        intro s0
        unfold b_M_sits2_65
        rw [M_put_s (by omega), M_put_s (by omega), ob_some, ob_some]
        by_cases c : p = -1
        · rw [if_pos c] at hi2
          rw [if_pos c, hi2]
        · rw [if_neg c] at hi2
          rw [if_neg c, hi2]
      have ew := put_117 e1 x p i2
      have hRL : RL (sD (sD (sD (sD D 28 x p) 29 x i2) 117 (40 + 6 * x + 3) p) 117 (40 + 6 * x + 4) i2) E := by
        refine RL_c h (by rw [ew]; exact WF_sea hW hx hv) (by rw [ew]; exact UQ_sea hU h8 hf) ?_ (fun c q1 q2 => ?_)
        · rw [ew]
          exact CH_of (CC_sea h8 hH hB hC hx p i2) (fun k q1 q2 => by rw [sD_nr _ _ _ (by omega), sD_nr _ _ _ (by omega)])
        · rw [sD_nr _ _ _ q2, sD_nr _ _ _ q2, sD_nr _ _ _ (by omega), sD_nr _ _ _ (by omega)]
      cases hs : st (D 117) x
      · refine ⟨-1, _, _, ?_, ?_, hRL, e1⟩
        · unfold b_X_sits_47
          rw [C_seat_s hC hW hx, ob_some, hs, b01_if, if_neg (by decide)]
          exact e89 _
        · unfold b_M_sits2_37
          rw [M_sits_s _ (by omega), ob_some, e1, hs, b01_if, if_neg (by decide)]
          exact e65 _
      · refine ⟨nI 100 * D 117 (40 + 6 * x + 3) + D 117 (40 + 6 * x + 4), _, _, ?_, ?_, hRL, e1⟩
        · unfold b_X_sits_47
          rw [C_seat_s hC hW hx, ob_some, hs, b01_if, if_pos rfl, rk_in (by omega) (by decide), rk_in (by omega) (by decide), nI_clamp (by omega), c_28 hC hx, c_29 hC hx]
          exact e89 _
        · unfold b_M_sits2_37
          rw [M_sits_s _ (by omega), ob_some, e1, hs, b01_if, if_pos rfl, M_of_s _ (by omega) (by decide), ob_some, M_of_s _ (by omega) (by decide), ob_some, e1]
          exact e65 _
    by_cases hp : p = -1
    · rw [if_pos hp]
      obtain ⟨r, D1, D2, q1, q2, q3, e⟩ := good (-1) (by rw [if_pos hp]) (Or.inl ⟨hp, rfl⟩) (Or.inl hp)
      refine ⟨r, D1, D2, q1, ?_, q3⟩
      unfold g_M_sits2
      rw [M_isPerson_s (by rw [e]; exact hW), e, vx_nI (by omega), decide_eq_true hx, b01_if, if_pos rfl, if_pos hp]
      exact q2
    · rw [if_neg hp]
      cases hq : vx p (nP (D 117)) && vx i (nL (D 117))
      · refine ⟨-2, D, D, rfl, ?_, h⟩
        unfold g_M_sits2
        rw [M_isPerson_s hW, vx_nI (by omega), decide_eq_true hx, b01_if, if_pos rfl, if_neg hp, M_isPlace_s hW, vl_i, vl_i, hq, b01_if]
        rfl
      · simp only [Bool.and_eq_true] at hq
        obtain ⟨p', hp', rfl⟩ := vx_of (by omega) hq.1
        obtain ⟨i', hi', rfl⟩ := vx_of (by omega) hq.2
        rw [if_pos rfl, C_sitterAt_s (by omega) hC hW (by omega), ob_some]
        by_cases hs : sat (D 117) (nI p') (nI i') = -1
        · obtain ⟨r, D1, D2, q1, q2, q3, e⟩ := good (nI i') (by rw [if_neg hp]) (Or.inr ⟨p', i', hp', hi', rfl, rfl⟩) (Or.inr hs)
          refine ⟨r, D1, D2, by rw [if_pos hs]; exact q1, ?_, q3⟩
          unfold g_M_sits2
          rw [M_isPerson_s (by rw [e]; exact hW), e, vx_nI (by omega), decide_eq_true hx, b01_if, if_pos rfl, if_neg hp, M_isPlace_s (by rw [e]; exact hW), e, vl_i, vl_i, hq.1, hq.2, b01_if, M_sitterAt_s (by omega) (by rw [e]; exact hW), ob_some, e, if_pos hs]
          exact q2
        · refine ⟨-2, D, D, by rw [if_neg hs], ?_, h⟩
          unfold g_M_sits2
          rw [M_isPerson_s hW, vx_nI (by omega), decide_eq_true hx, b01_if, if_pos rfl, if_neg hp, M_isPlace_s hW, vl_i, vl_i, hq.1, hq.2, b01_if, M_sitterAt_s (by omega) hW, ob_some, if_neg hs]
          rfl
/-- two change places -/
def swp (w : W_) (x y : Nat) : W_ := sea (sea w x (w (40 + 6 * y + 3)) (w (40 + 6 * y + 4))) y (w (40 + 6 * x + 3)) (w (40 + 6 * x + 4))
theorem swp_r (w : W_) {x y : Nat} (hxy : x ≠ y) (z : Nat) : swp w x y (40 + 6 * z + 3) = w (40 + 6 * (if z = x then y else if z = y then x else z) + 3) ∧ swp w x y (40 + 6 * z + 4) = w (40 + 6 * (if z = x then y else if z = y then x else z) + 4) := by
  unfold swp
  by_cases c1 : z = x
  · subst c1
    rw [if_pos rfl]
    exact ⟨by rw [sea_n _ _ _ _ (by omega), sea_3], by rw [sea_n _ _ _ _ (by omega), sea_4]⟩
  · rw [if_neg c1]
    by_cases c2 : z = y
    · subst c2
      rw [if_pos rfl, sea_3, sea_4]
      exact ⟨rfl, rfl⟩
    · rw [if_neg c2, sea_n _ _ _ _ (by omega), sea_n _ _ _ _ (by omega), sea_n _ _ _ _ (by omega), sea_n _ _ _ _ (by omega)]
      exact ⟨rfl, rfl⟩
theorem swp_n (w : W_) (x y : Nat) {k : Nat} (h : k ≠ 40 + 6 * x + 3 ∧ k ≠ 40 + 6 * x + 4 ∧ k ≠ 40 + 6 * y + 3 ∧ k ≠ 40 + 6 * y + 4) : swp w x y k = w k := by
  unfold swp
  rw [sea_n _ _ _ _ (by omega), sea_n _ _ _ _ (by omega)]
theorem UQ_swp (hU : UQ w) {x y : Nat} (hx : x < nA w) (hy : y < nA w) (hxy : x ≠ y) : UQ (swp w x y) := by
  obtain ⟨u1, u2⟩ := hU
  have eA : nA (swp w x y) = nA w := by unfold nA; rw [swp_n _ _ _ (by omega)]
  refine ⟨fun a b ha hb => ?_, fun a b ha hb e1 e2 e3 => ?_⟩
  · rw [eA] at ha hb
    rw [swp_n _ _ _ (by omega), swp_n _ _ _ (by omega)]
    exact u1 a b ha hb
  · rw [eA] at ha hb
    rw [(swp_r w hxy a).1, (swp_r w hxy b).1] at e1
    rw [(swp_r w hxy a).2, (swp_r w hxy b).2] at e2
    rw [(swp_r w hxy a).1] at e3
    have := u2 _ _ (by split <;> (try split) <;> omega) (by split <;> (try split) <;> omega) e1 e2 e3
    by_cases c1 : a = x
    · rw [if_pos c1] at this
      by_cases d1 : b = x
      · omega
      · rw [if_neg d1] at this
        by_cases d2 : b = y
        · rw [if_pos d2] at this; omega
        · rw [if_neg d2] at this; omega
    · rw [if_neg c1] at this
      by_cases c2 : a = y
      · rw [if_pos c2] at this
        by_cases d1 : b = x
        · rw [if_pos d1] at this; omega
        · rw [if_neg d1] at this
          by_cases d2 : b = y
          · omega
          · rw [if_neg d2] at this; omega
      · rw [if_neg c2] at this
        by_cases d1 : b = x
        · rw [if_pos d1] at this; omega
        · rw [if_neg d1] at this
          by_cases d2 : b = y
          · rw [if_pos d2] at this; omega
          · rw [if_neg d2] at this; omega
theorem WF_swp (hW : WF w) {x y : Nat} (hx : x < nA w) (hy : y < nA w) (sx : st w x = true) (sy : st w y = true) : WF (swp w x y) := by
  have e := sea_A w x (w (40 + 6 * y + 3)) (w (40 + 6 * y + 4))
  obtain ⟨x1, x2, x3, x4⟩ := wf_sit hW hx sx
  obtain ⟨y1, y2, y3, y4⟩ := wf_sit hW hy sy
  unfold swp
  exact WF_sea (WF_sea hW hx (Or.inr ⟨_, _, y2, y4, y1, y3⟩)) (by rw [e.1]; exact hy) (Or.inr ⟨_, _, by rw [e.2.2.2.1]; exact x2, by rw [e.2.2.2.2]; exact x4, x1, x3⟩)
theorem M_trade_s {x y : Nat} (hx : x < 8) (hy : y < 8) (hxy : x ≠ y) {D1 : mx_D} (e : D1 117 = w) : ∃ D2, g_M_trade (nI x) (nI y) D1 = some D2 ∧ D2 117 = swp w x y ∧ ∀ c, c ≠ 117 → D2 c = D1 c := by
  unfold g_M_trade
  rw [M_of_s _ hx (by decide), ob_some, M_of_s _ hx (by decide), ob_some, M_of_s _ hy (by decide), ob_some, M_of_s _ hy (by decide), ob_some, M_put_s hx, ob_some, M_put_s hy, ob_some, e]
  refine ⟨_, rfl, ?_, fun c hc => ?_⟩
  · exact put_117 (put_117 e x _ _) y _ _
  · rw [sD_nr _ _ _ hc, sD_nr _ _ _ hc, sD_nr _ _ _ hc, sD_nr _ _ _ hc]
theorem M_areTwo_s (hW : WF (D 117)) (a b : Int32) : g_M_areTwo D a b = some (b01 (vx a (nA (D 117)) && (vx b (nA (D 117)) && (!decide (a = b) && (st (D 117) a.toNatClampNeg && st (D 117) b.toNatClampNeg))))) := by
  have h8 := wf_A8 hW
  unfold g_M_areTwo
  rw [M_isPerson_s hW, M_isPerson_s hW, b01_if, b01_if]
  rcases vx_c a (nA (D 117)) (by omega) with q | ⟨x, hx, rfl⟩
  · rw [q]
    rfl
  · rcases vx_c b (nA (D 117)) (by omega) with q | ⟨y, hy, rfl⟩
    · rw [q]
      cases vx (nI x) (nA (D 117)) <;> rfl
    · rw [vx_nI (by omega), vx_nI (by omega), decide_eq_true hx, decide_eq_true hy, if_pos rfl, if_pos rfl, M_sits_s D (by omega), M_sits_s D (by omega), ob_some, ob_some, nI_clamp (by omega), nI_clamp (by omega)]
      simp only [b01_if]
      by_cases c : nI x = nI y
      · rw [if_pos c, decide_eq_true c]
        rfl
      · rw [if_neg c, decide_eq_false c]
        cases st (D 117) x <;> cases st (D 117) y <;> rfl
theorem op_change (h : RL D E) (a b : Int32) : ∃ r D1 D2, g_X_change a b D = some (r, D1) ∧ g_M_change a b D1 = some (r, D2) ∧ RL D2 E := by
  have hW := h.1
  have hC := h.2.2.1
  have hU := h.2.1
  have h8 := wf_A8 hW
  have hH := wf_H8 hW
  have hB := wf_B5 hW
  cases hq : vx a (nA (D 117)) && (vx b (nA (D 117)) && (!decide (a = b) && (st (D 117) a.toNatClampNeg && st (D 117) b.toNatClampNeg)))
  · refine ⟨-2, D, D, ?_, ?_, h⟩
    · unfold g_X_change
      rw [C_isSeated_s hC hW, C_isSeated_s hC hW, ob_some, ob_some, b01_if, b01_if]
      by_cases c : a = b
      · rw [if_pos c]
      · rw [if_neg c]
        rw [decide_eq_false c, Bool.not_false, Bool.true_and] at hq
        cases q1 : vx a (nA (D 117)) && st (D 117) a.toNatClampNeg
        · rfl
        · cases q2 : vx b (nA (D 117)) && st (D 117) b.toNatClampNeg
          · rfl
          · simp only [Bool.and_eq_true] at q1 q2
            rw [q1.1, q1.2, q2.1, q2.2] at hq
            cases hq
    · unfold g_M_change
      rw [M_areTwo_s hW, hq, ob_some, b01_if]
      rfl
  · have hq0 := hq
    simp only [Bool.and_eq_true, Bool.not_eq_true', decide_eq_false_iff_not] at hq
    obtain ⟨q1, q2, q3, q4, q5⟩ := hq
    obtain ⟨x, hx, rfl⟩ := vx_of (by omega) q1
    obtain ⟨y, hy, rfl⟩ := vx_of (by omega) q2
    rw [nI_clamp (by omega)] at q4 q5
    have hxy : x ≠ y := fun e => q3 (by rw [e])
    have e1 : sD (sD (sD (sD D 28 x (D 117 (40 + 6 * y + 3))) 29 x (D 117 (40 + 6 * y + 4))) 28 y (D 117 (40 + 6 * x + 3))) 29 y (D 117 (40 + 6 * x + 4)) 117 = D 117 := by
      rw [sD_nr _ _ _ (by decide), sD_nr _ _ _ (by decide), sD_nr _ _ _ (by decide), sD_nr _ _ _ (by decide)]
    obtain ⟨D2, t1, t2, t3⟩ := M_trade_s (x := x) (y := y) (by omega) (by omega) hxy e1
    refine ⟨nI 0, sD (sD (sD (sD D 28 x (D 117 (40 + 6 * y + 3))) 29 x (D 117 (40 + 6 * y + 4))) 28 y (D 117 (40 + 6 * x + 3))) 29 y (D 117 (40 + 6 * x + 4)), D2, ?_, ?_, ?_⟩
    · unfold g_X_change
      rw [if_neg q3, C_seat_s hC hW hx, C_seat_s hC hW hy, ob_some, ob_some, q4, q5, b01_if, b01_if, if_pos rfl, if_pos rfl]
      simp (disch := omega) only [rk_in, nI_clamp]
      rw [sD_ne _ _ _ _ (show 29 ≠ 28 by decide), c_28 hC hx, c_28 hC hy, c_29 hC hx, c_29 hC hy]
    · unfold g_M_change
      rw [M_areTwo_s (by rw [e1]; exact hW), e1, hq0, ob_some, b01_if, if_pos rfl, t1, ob_some]
    · have f : ∀ c, (c < 19 ∨ 33 < c) → c ≠ 117 → D2 c = D c := fun c z1 z2 => by
        rw [t3 c z2, sD_nr _ _ _ (by omega), sD_nr _ _ _ (by omega), sD_nr _ _ _ (by omega), sD_nr _ _ _ (by omega)]
      refine RL_c h (by rw [t2]; exact WF_swp hW hx hy q4 q5) (by rw [t2]; exact UQ_swp hU hx hy hxy) ?_ f
      rw [t2]
      have k1 := CC_sea h8 hH hB hC hx (D 117 (40 + 6 * y + 3)) (D 117 (40 + 6 * y + 4))
      have ea := sea_A (D 117) x (D 117 (40 + 6 * y + 3)) (D 117 (40 + 6 * y + 4))
      have k2 := CC_sea (by rw [ea.1]; exact h8) (by rw [ea.2.1]; exact hH) (by rw [ea.2.2.1]; exact hB) k1 (x := y) (by rw [ea.1]; exact hy) (D 117 (40 + 6 * x + 3)) (D 117 (40 + 6 * x + 4))
      exact CH_of k2 (fun k z1 z2 => t3 k (by omega))
/-- one wears a hat; who wore it wears none -/
theorem C_wearerOf_s (hF : 100 ≤ F) (hC : CC D w) (hW : WF w) {v : Nat} (hv : v < 2 ^ 31) : g_Church_wearerOf F D (nI v) = some (ff (fun z => decide (w (40 + 6 * z + 5) = nI v)) (nA w) 0) := by
  have h8 := wf_A8 hW
  unfold g_Church_wearerOf
  refine lff0 _ (fun f a => g_Church_wearerOf_2 F D f (nI v) (nI a)) (n := nA w) (by omega) (fun f a ha => ?_) (fun f => ?_)
  · rw [s_Church_wearerOf_2]
    unfold b_Church_wearerOf_2
    rw [c_24 hC, wf_A hW, if_neg (nI_ge ha (by omega)), if_neg (nI_m1 hv), rk_in (by omega) (by decide), nI_clamp (by omega), c_30 hC ha, nI_add]
    by_cases c : w (40 + 6 * a + 5) = nI v
    · rw [if_pos c, decide_eq_true c]
      rfl
    · rw [if_neg c, decide_eq_false c]
      rfl
  · rw [s_Church_wearerOf_2]
    unfold b_Church_wearerOf_2
    rw [c_24 hC, wf_A hW, if_pos (nI_le (Nat.le_refl _) (by omega))]
theorem RL_hat {D1 : mx_D} (h : RL D1 E) {x : Nat} (hx : x < nA (D1 117)) {v : Int32} (hv : v = -1 ∨ ∃ j, j < nH (D1 117) ∧ v = nI j) (hu : v = -1 ∨ ∀ z, z < nA (D1 117) → z ≠ x → ¬ D1 117 (40 + 6 * z + 5) = v) : RL (sD (sD D1 30 x v) 117 (40 + 6 * x + 5) v) E := by
  have h8 := wf_A8 h.1
  refine RL_1 h (o := 11) (j := x) (k := 40 + 6 * x + 5) (by decide) (by unfold co; exact Or.inr (Or.inr (Or.inr (Or.inr (Or.inr (Or.inr (Or.inr (Or.inr (Or.inr (Or.inr (Or.inr (Or.inr (Or.inr (Or.inr (Or.inr (Or.inr (Or.inr (Or.inl ⟨rfl, hx, rfl⟩)))))))))))))))))) (by omega) (WF_hat h.1 hx hv) ?_
  obtain ⟨u1, u2⟩ := h.2.1
  have eA : nA (upd (D1 117) (40 + 6 * x + 5) v) = nA (D1 117) := by unfold nA; rw [upd_ne _ _ (by omega)]
  refine ⟨fun a b ha hb e1 e2 => ?_, fun a b ha hb => ?_⟩
  · rw [eA] at ha hb
    by_cases c1 : a = x
    · by_cases c2 : b = x
      · omega
      · exfalso
        subst c1
        rw [upd_eq, upd_ne _ _ (by omega)] at e1
        rw [upd_eq] at e2
        rcases hu with hu | hu
        · exact e2 hu
        · exact hu b hb c2 e1.symm
    · by_cases c2 : b = x
      · exfalso
        subst c2
        rw [upd_eq, upd_ne _ _ (by omega)] at e1
        rw [upd_ne _ _ (by omega)] at e2
        rcases hu with hu | hu
        · rw [hu] at e1
          exact e2 e1
        · exact hu a ha c1 e1
      · rw [upd_ne _ _ (by omega), upd_ne _ _ (by omega)] at e1
        rw [upd_ne _ _ (by omega)] at e2
        exact u1 a b ha hb e1 e2
  · rw [eA] at ha hb
    rw [upd_ne _ _ (by omega), upd_ne _ _ (by omega), upd_ne _ _ (by omega), upd_ne _ _ (by omega)]
    exact u2 a b ha hb
theorem M_set5_s {x : Nat} (hx : x < 8) (v : Int32) (D : mx_D) : g_M_set (nI x) (nI 5) v D = some (sD D 117 (40 + 6 * x + 5) v) := by
  unfold g_M_set
  simp (disch := omega) only [nI_add, pk_mul, rk_in, nI_clamp, ob_some]
/-- two stores into unlike rows may change their order -/
theorem sD_comm (D : mx_D) {a b : Nat} (i j : Nat) (x y : Int32) (h : a ≠ b) : sD (sD D a i x) b j y = sD (sD D b j y) a i x := by
  funext c
  by_cases c1 : c = a
  · subst c1
    rw [sD_nr _ _ _ h, sD_row, sD_row, sD_nr _ _ _ h]
  · by_cases c2 : c = b
    · subst c2
      rw [sD_row, sD_nr _ _ _ c1, sD_nr _ _ _ c1, sD_row]
    · rw [sD_nr _ _ _ c2, sD_nr _ _ _ c1, sD_nr _ _ _ c1, sD_nr _ _ _ c2]
/-- the reference's loop over all who may wear it: only one can -/
theorem M_wears_loop (hF : 1000 ≤ F) {D1 : mx_D} (hW : WF (D1 117)) {x : Nat} (hx : x < nA (D1 117)) (v r3 : Int32) (hv : v = -1 ∨ ∀ z, z < nA (D1 117) → ¬ D1 117 (40 + 6 * z + 5) = v) : g_M_wears_34 F F (nI x) v r3 (nI 0) D1 = some (r3, sD D1 117 (40 + 6 * x + 5) v) := by
  have h8 := wf_A8 hW
  refine lu0 (fun f a => g_M_wears_34 F f (nI x) v r3 (nI a) D1) (n := nA (D1 117)) _ (by omega) (fun f a ha => ?_) (fun f => ?_)
  · rw [s_M_wears_34]
    unfold b_M_wears_34
    rw [wf_A hW, if_neg (nI_ge ha (by omega)), nI_add, M_of_s _ (by omega) (by decide), ob_some]
    rcases hv with hv | hv
    · rw [if_pos hv]
    · by_cases c : v = -1
      · rw [if_pos c]
      · rw [if_neg c, if_neg (hv a ha)]
  · rw [s_M_wears_34]
    unfold b_M_wears_34
    rw [wf_A hW, if_pos (nI_le (Nat.le_refl _) (by omega)), M_set5_s (by omega), ob_some]
/-- ... with one wearer, it comes off first -/
theorem M_wears_one (hF : 1000 ≤ F) {D1 : mx_D} (hW : WF (D1 117)) (hU : UQ (D1 117)) {x y : Nat} (hx : x < nA (D1 117)) (hy : y < nA (D1 117)) {j : Nat} (hj : j < nH (D1 117)) (e : D1 117 (40 + 6 * y + 5) = nI j) (r3 : Int32) : g_M_wears_34 F F (nI x) (nI j) r3 (nI 0) D1 = some (r3, sD (sD D1 117 (40 + 6 * y + 5) (-1)) 117 (40 + 6 * x + 5) (nI j)) := by
  have h8 := wf_A8 hW
  have hH := wf_H8 hW
  have no : ∀ z, z < nA (D1 117) → z ≠ y → ¬ D1 117 (40 + 6 * z + 5) = nI j := fun z hz hne q => hne (hU.1 z y hz hy (by rw [q, e]) (by rw [q]; exact nI_m1 (by omega)))
  refine lu0 (fun f a => g_M_wears_34 F f (nI x) (nI j) r3 (nI a) (if y < a then sD D1 117 (40 + 6 * y + 5) (-1) else D1)) (n := nA (D1 117)) _ (by omega) (fun f a ha => ?_) (fun f => ?_)
  · have e4 : (if y < a then sD D1 117 (40 + 6 * y + 5) (-1) else D1) 117 4 = D1 117 4 := by
      split
      · rw [sD_nj _ _ _ (by omega)]
      · rfl
    rw [s_M_wears_34]
    unfold b_M_wears_34
    rw [e4, wf_A hW, if_neg (nI_ge ha (by omega)), if_neg (nI_m1 (by omega)), nI_add, M_of_s _ (by omega) (by decide), ob_some]
    by_cases c1 : a = y
    · subst c1
      rw [if_neg (show ¬ a < a by omega), if_pos e, M_set5_s (by omega), ob_some, if_pos (show a < a + 1 by omega)]
    · by_cases c2 : y < a
      · rw [if_pos c2, if_pos (show y < a + 1 by omega), sD_nj _ _ _ (by omega), if_neg (no a ha c1)]
      · rw [if_neg c2, if_neg (show ¬ y < a + 1 by omega), if_neg (no a ha c1)]
  · rw [if_pos hy]
    rw [s_M_wears_34]
    unfold b_M_wears_34
    rw [sD_nj _ _ _ (by omega), wf_A hW, if_pos (nI_le (Nat.le_refl _) (by omega)), M_set5_s (by omega), ob_some]
theorem op_wears (hF : 1000 ≤ F) (h : RL D E) (a b : Int32) : ∃ r D1 D2, g_X_wears F a b D = some (r, D1) ∧ g_M_wears F a b D1 = some (r, D2) ∧ RL D2 E := by
  have hW := h.1
  have hC := h.2.2.1
  have hU := h.2.1
  have h8 := wf_A8 hW
  have hH := wf_H8 hW
  unfold g_X_wears
  rw [C_hasPerson_s hC hW, C_hasHat_s hC hW, b01_if, b01_if]
  rcases vx_c a (nA (D 117)) (by omega) with q | ⟨x, hx, rfl⟩
  · refine ⟨-2, D, D, by rw [q]; rfl, ?_, h⟩
    unfold g_M_wears
    rw [M_isPerson_s hW, q, b01_if]
    rfl
  · rw [vx_nI (by omega), decide_eq_true hx, if_pos rfl]
    by_cases hb : b = -1
    · subst hb
      refine ⟨D 117 (40 + 6 * x + 5), sD D 30 x (-1), sD (sD D 30 x (-1)) 117 (40 + 6 * x + 5) (-1), ?_, ?_, RL_hat h hx (Or.inl rfl) (Or.inl rfl)⟩
      · rw [if_pos rfl]
        unfold b_X_wears_30 b_X_wears_60
        rw [rk_in (by omega) (by decide), if_pos rfl, if_pos rfl, rk_in (by omega) (by decide), nI_clamp (by omega), c_30 hC hx]
      · have e : sD D 30 x (-1) 117 = D 117 := sD_nr _ _ _ (by decide)
        unfold g_M_wears
        rw [M_isPerson_s (by rw [e]; exact hW), e, vx_nI (by omega), decide_eq_true hx, b01_if, if_pos rfl, if_pos rfl, M_of_s _ (by omega) (by decide), ob_some, M_wears_loop hF (by rw [e]; exact hW) (by rw [e]; exact hx) _ _ (Or.inl rfl), e]
    · rw [if_neg hb]
      rcases vx_c b (nH (D 117)) (by omega) with q | ⟨j, hj, rfl⟩
      · refine ⟨-2, D, D, by rw [q]; rfl, ?_, h⟩
        unfold g_M_wears
        rw [M_isPerson_s hW, vx_nI (by omega), decide_eq_true hx, b01_if, if_pos rfl, if_neg hb, M_isHat_s hW, q, b01_if]
        rfl
      · rw [vx_nI (by omega), decide_eq_true hj, if_pos rfl]
        have eX : ∀ r1, g_Church_wearerOf F D (nI j) = some r1 → b_X_wears_30 F (nI x) (nI j) D = b_X_wears_60 F (nI x) (nI j) (D 117 (40 + 6 * x + 5)) r1 D := by
          intro r1 hr
          unfold b_X_wears_30
          rw [rk_in (by omega) (by decide), if_neg hb, hr, ob_some, nI_clamp (by omega), c_30 hC hx]
        rcases ff_sp (fun z => decide (D 117 (40 + 6 * z + 5) = nI j)) (nA (D 117)) 0 with ⟨q1, q2⟩ | ⟨y, -, q2, q3, -, q5⟩
        · have no : ∀ z, z < nA (D 117) → ¬ D 117 (40 + 6 * z + 5) = nI j := fun z hz => of_decide_eq_false (q2 z (by omega) (by omega))
          refine ⟨D 117 (40 + 6 * x + 5), sD D 30 x (nI j), sD (sD D 30 x (nI j)) 117 (40 + 6 * x + 5) (nI j), ?_, ?_, RL_hat h hx (Or.inr ⟨j, hj, rfl⟩) (Or.inr (fun z hz _ => no z hz))⟩
          · rw [eX _ (by rw [C_wearerOf_s (by omega) hC hW (by omega), q1])]
            unfold b_X_wears_60
            rw [if_pos rfl, rk_in (by omega) (by decide), nI_clamp (by omega)]
          · have e : sD D 30 x (nI j) 117 = D 117 := sD_nr _ _ _ (by decide)
            unfold g_M_wears
            rw [M_isPerson_s (by rw [e]; exact hW), e, vx_nI (by omega), decide_eq_true hx, b01_if, if_pos rfl, if_neg hb, M_isHat_s (by rw [e]; exact hW), e, vx_nI (by omega), decide_eq_true hj, b01_if, if_pos rfl, M_of_s _ (by omega) (by decide), ob_some, M_wears_loop hF (by rw [e]; exact hW) (by rw [e]; exact hx) _ _ (Or.inr (by rw [e]; exact no)), e]
        · have hy : y < nA (D 117) := by omega
          have ey : D 117 (40 + 6 * y + 5) = nI j := of_decide_eq_true q3
          have R1 := RL_hat h hy (v := -1) (Or.inl rfl) (Or.inl rfl)
          have ew : sD (sD D 30 y (-1)) 117 (40 + 6 * y + 5) (-1) 117 = upd (D 117) (40 + 6 * y + 5) (-1) := by rw [sD_117, sD_nr _ _ _ (by decide)]
          have eA : nA (upd (D 117) (40 + 6 * y + 5) (-1)) = nA (D 117) := by unfold nA; rw [upd_ne _ _ (by omega)]
          have eH : nH (upd (D 117) (40 + 6 * y + 5) (-1)) = nH (D 117) := by unfold nH; rw [upd_ne _ _ (by omega)]
          have R2 := RL_hat R1 (x := x) (by rw [ew, eA]; exact hx) (v := nI j) (Or.inr ⟨j, by rw [ew, eH]; exact hj, rfl⟩) (Or.inr (by
            rw [ew, eA]
            intro z hz hne q
            by_cases c : z = y
            · subst c
              rw [upd_eq] at q
              exact nI_m1 (by omega) q.symm
            · rw [upd_ne _ _ (by omega)] at q
              exact c (hU.1 z y hz hy (by rw [q, ey]) (by rw [q]; exact nI_m1 (by omega)))))
          refine ⟨D 117 (40 + 6 * x + 5), sD (sD D 30 y (-1)) 30 x (nI j), sD (sD (sD (sD D 30 y (-1)) 117 (40 + 6 * y + 5) (-1)) 30 x (nI j)) 117 (40 + 6 * x + 5) (nI j), ?_, ?_, R2⟩
          · rw [eX _ (by rw [C_wearerOf_s (by omega) hC hW (by omega), q5])]
            unfold b_X_wears_60
            rw [if_neg (nI_m1 (by omega)), rk_in (by omega) (by decide), rk_in (by omega) (by decide), nI_clamp (by omega), nI_clamp (by omega)]
          · have e : sD (sD D 30 y (-1)) 30 x (nI j) 117 = D 117 := by rw [sD_nr _ _ _ (by decide), sD_nr _ _ _ (by decide)]
            unfold g_M_wears
            rw [M_isPerson_s (by rw [e]; exact hW), e, vx_nI (by omega), decide_eq_true hx, b01_if, if_pos rfl, if_neg hb, M_isHat_s (by rw [e]; exact hW), e, vx_nI (by omega), decide_eq_true hj, b01_if, if_pos rfl, M_of_s _ (by omega) (by decide), ob_some, M_wears_one hF (by rw [e]; exact hW) (by rw [e]; exact hU) (x := x) (y := y) (by rw [e]; exact hx) (by rw [e]; exact hy) (by rw [e]; exact hj) (by rw [e]; exact ey), e, sD_comm _ _ _ _ _ (show 30 ≠ 117 by decide)]
end W2
