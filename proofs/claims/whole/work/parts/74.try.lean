/-! ===== worlds that are tried: digs, seat, pair ===== -/
section TR
variable {D : mx_D} {E : mx_E} {w w' : W_} {F : Nat}
theorem bod_c (hW : WF w) {z : Nat} (hz : z < nA w) (e6 : w' 6 = w 6) (e0 : w' (40 + 6 * z) = w (40 + 6 * z)) (e1 : w' (40 + 6 * z + 1) = w (40 + 6 * z + 1)) (e2 : w' (40 + 6 * z + 2) = w (40 + 6 * z + 2)) (e5 : w' (40 + 6 * z + 5) = w (40 + 6 * z + 5)) (eh : ∀ i, 88 ≤ i → i < 106 → w' i = w i) (y : Nat) : bod w' y z = bod w y z := by
  have hB := wf_B5 hW
  have hH := wf_H8 hW
  have eB : nB w' = nB w := by unfold nB; rw [e6]
  have ek : bks w' (nI z) = bks w (nI z) := by
    unfold bks
    rw [eB]
    exact fo_c _ (fun b s hb => by rw [eh _ (by omega) (by omega), ti_c (eh _ (by omega) (by omega))])
  have et : hat w' z = hat w z := by
    unfold hat ht
    rw [e5]
    by_cases c : w (40 + 6 * z + 5) = -1
    · rw [if_pos c, if_pos c]
    · rw [if_neg c, if_neg c]
      have := (wf_ht hW hz).resolve_left c
      have h2 : (w (40 + 6 * z + 5)).toNatClampNeg < nH w := this.2
      exact ti_c (eh _ (by omega) (by omega))
  unfold bod
  rw [ti_c e0, ti_c e1, ti_c e2, ek, et]
theorem lev_c {hs' : Nat → Int} {y : Nat} (h1 : ∀ z, z < nA w → hi w' y z = hs' z) (e8 : nA w ≤ 8) (hp : ∀ p, p < 4 → pM w' p = pM w p) (hsm : sM w' = sM w) (hb : ba w' = ba w) (hv : nV w' = nV w) : lev w' y = decide (apa hs' (pM w) (ba w) (sM w) ≤ nV w) := by
  unfold lev apa
  rw [hsm, hb, hv]
  have e1 : spr (hi w' y) (sM w) = spr hs' (sM w) := spr_c (fun x hx => h1 x (sub_sM w x hx))
  have e2 : fo (fun p s => max s (spr (hi w' y) (sM w &&& pM w' p))) 0 4 = fo (fun p s => max s (spr hs' (sM w &&& pM w p))) 0 4 := fo_c 4 (fun p s hp4 => by
    rw [hp p hp4, spr_c (fun x hx => h1 x (sub_and_l (sub_sM w) x hx))])
  rw [e1, e2]
/-! digs -/
theorem hi_tr (hW : WF w) {k : Nat} (hk : 20 ≤ k ∧ k < 40) (v : Int32) {z : Nat} (hz : z < nA w) (y : Nat) : hi (upd w k v) y z = hi w y z + (if st w z = true ∧ 20 + 5 * pw w z + pc w z = k then ti w k - v.toInt else 0) := by
  have h8 := wf_A8 hW
  have h4 := wf_P4 hW
  have h5 := wf_L5 hW
  have es : st (upd w k v) z = st w z := by unfold st; rw [upd_ne _ _ (by omega)]
  have ep : pw (upd w k v) z = pw w z := by unfold pw; rw [upd_ne _ _ (by omega)]
  have ec : pc (upd w k v) z = pc w z := by unfold pc; rw [upd_ne _ _ (by omega)]
  have eb := bod_c (w' := upd w k v) hW hz (upd_ne _ _ (by omega)) (upd_ne _ _ (by omega)) (upd_ne _ _ (by omega)) (upd_ne _ _ (by omega)) (upd_ne _ _ (by omega)) (fun i q1 q2 => upd_ne _ _ (by omega)) y
  unfold hi
  rw [es, ep, ec, eb]
  cases hs : st w z
  · simp
  · obtain ⟨-, q2, -, q4⟩ := wf_sit hW hz hs
    simp only [if_true, true_and]
    unfold flo
    rw [ti_c (upd_ne w v (show 8 + 3 * pw w z ≠ k by omega)), ti_c (upd_ne w v (show 8 + 3 * pw w z + 2 ≠ k by omega))]
    by_cases c : 20 + 5 * pw w z + pc w z = k
    · rw [if_pos c, c]
      have : ti (upd w k v) k = v.toInt := by unfold ti; rw [upd_eq]
      rw [this]
      omega
    · rw [if_neg c, ti_c (upd_ne w v c)]
      omega
/-- digs: by a trench of n -/
def dgb (w : W_) (y x n : Nat) : Bool := lvb w y x (ti w (20 + 5 * pw w x + pc w x) - n)
theorem lev_tr (hW : WF w) (hU : UQ w) {x : Nat} (hx : x < nA w) (hs : st w x = true) (n y : Nat) (hn : n < 2 ^ 31) : lev (upd w (20 + 5 * pw w x + pc w x) (nI n)) y = dgb w y x n := by
  have h8 := wf_A8 hW
  have h4 := wf_P4 hW
  have h5 := wf_L5 hW
  obtain ⟨x1, x2, x3, x4⟩ := wf_sit hW hx hs
  have en : ∀ i, (i < 20 ∨ 40 ≤ i) → upd w (20 + 5 * pw w x + pc w x) (nI n) i = w i := fun i hi => upd_ne _ _ (by omega)
  have eA : nA (upd w (20 + 5 * pw w x + pc w x) (nI n)) = nA w := by unfold nA; rw [en _ (by omega)]
  unfold dgb lvb
  refine lev_c (w := w) (fun z hz => ?_) h8 (fun p hp => ?_) ?_ ?_ ?_
  · rw [hi_tr hW (by omega) _ hz, nI_toInt hn]
    unfold hsx
    by_cases c : z = x
    · subst c
      rw [if_pos ⟨hs, rfl⟩, if_pos rfl]
    · rw [if_neg c, if_neg]
      · omega
      · rintro ⟨z1, z2⟩
        obtain ⟨a1, a2, a3, a4⟩ := wf_sit hW hz z1
        have e1 : pw w z = pw w x := by omega
        have e2 : pc w z = pc w x := by omega
        exact c (hU.2 z x hz hx (by rw [a1, x1, e1]) (by rw [a3, x3, e2]) (by rw [a1]; exact nI_m1 (by omega)))
  · unfold pM
    rw [eA]
    exact mk_c _ (fun i hi => by rw [en _ (by omega)])
  · unfold sM
    rw [eA]
    exact mk_c _ (fun i hi => by unfold st; rw [en _ (by omega)])
  · unfold ba; rw [en _ (by omega)]
  · unfold nV; rw [en _ (by omega)]
theorem x_digs (hF : 1000 ≤ F) (hC : CC D w) (hW : WF w) (a b : Int32) : ∃ D1, g_X_digs F a b D = some (if askS w a b then ff (fun n => dgb w b.toNatClampNeg a.toNatClampNeg n) 61 0 else -2, D1) ∧ FX D D1 := by
  have h8 := wf_A8 hW
  have h4 := wf_P4 hW
  have h5 := wf_L5 hW
  unfold g_X_digs
  rw [X_canAskOf_s hC hW, ob_some]
  simp only [b01_if]
  show ∃ D1, (if askS w a b = true then _ else _) = _ ∧ _
  cases hq : askS w a b
  · exact ⟨_, rfl, FX_r D⟩
  · obtain ⟨x, y, rfl, hx, rfl, hy, hs, -⟩ := askS_t hW hq
    obtain ⟨D1, h1, h2, h3⟩ := H_take_s (F := F) (by omega) hC hW y
    have hc : CC D1 w := CC_of hC (fun c hc => h2 c (by omega))
    obtain ⟨x1, x2, x3, x4⟩ := wf_sit hW hx hs
    have tr := wf_tr hW (j := 5 * pw w x + pc w x) (by omega)
    rw [show 20 + (5 * pw w x + pc w x) = 20 + 5 * pw w x + pc w x by omega] at tr
    rw [if_pos rfl, if_pos rfl, nI_clamp (by omega), nI_clamp (by omega), h1, ob_some, rk_in (by omega) (by decide), rk_in (by omega) (by decide), rk_in (by omega) (by decide), c_28 hc hx, c_29 hc hx, x1, x3, C_trenchAt_s hc hW x2 x4, ob_some, rk_in (by omega) (by decide), h3.1 x hx, ti_at w (20 + 5 * pw w x + pc w x), iI_add]
    have key : ∀ (k f n : Nat) (s : mx_D), n + k = 61 → k < f → (FX D s ∧ HT s (nA w) (hsx (hi w y) x (ti w (20 + 5 * pw w x + pc w x) - n)) (pM w) (sM w) (ba w)) → ∃ D1, g_X_digs_69 F f (nI x) (nI n) s = some (ff (fun n => dgb w y x n) k n, D1) ∧ FX D D1 := by
      intro k
      induction k with
      | zero =>
        intro f n s hn hf hI
        obtain ⟨f, rfl⟩ : ∃ g, f = g + 1 := ⟨f - 1, by omega⟩
        obtain rfl : n = 61 := by omega
        rw [s_X_digs_69]
        unfold b_X_digs_69
        rw [if_pos (by decide)]
        exact ⟨_, rfl, hI.1⟩
      | succ k ih =>
        intro f n s hn hf hI
        obtain ⟨f, rfl⟩ : ∃ g, f = g + 1 := ⟨f - 1, by omega⟩
        have hc : CC s w := CC_of hC (fun c hc => hI.1 c (by omega))
        rw [s_X_digs_69]
        unfold b_X_digs_69
        rw [if_neg (nI_nlt (by omega) (by omega)), lvb_s (by omega) hc hW (by omega) (by omega) hI.2, ob_some, rk_in (by omega) (by decide), rk_in (by omega) (by decide), nI_clamp (by omega), hI.2.1 x hx, nI_add]
        simp only [b01_if]
        have e : ff (fun n => dgb w y x n) (k + 1) n = if dgb w y x n = true then nI n else ff (fun n => dgb w y x n) k (n + 1) := rfl
        have ed : dgb w y x n = lvb w y x (ti w (20 + 5 * pw w x + pc w x) - n) := rfl
        rw [e, ed]
        cases lvb w y x (ti w (20 + 5 * pw w x + pc w x) - n)
        · refine ih f (n + 1) _ (by omega) (by omega) ⟨FX_t hI.1 (fun c hc => sD_nr _ _ _ (by omega)), ?_⟩
          have e2 : hsx (hi w y) x (ti w (20 + 5 * pw w x + pc w x) - n) x = hi w y x + (ti w (20 + 5 * pw w x + pc w x) - n) := by unfold hsx; rw [if_pos rfl]
          rw [e2, iI_nI 1, iI_sub]
          have := HT_x (D := s) (hs := hi w y) (x := x) (d := ti w (20 + 5 * pw w x + pc w x) - n) (ti w (20 + 5 * pw w x + pc w x) - ((n + 1 : Nat) : Int)) hI.2 hx
          rw [show hi w y x + (ti w (20 + 5 * pw w x + pc w x) - (n : Int)) - ((1 : Nat) : Int) = hi w y x + (ti w (20 + 5 * pw w x + pc w x) - ((n + 1 : Nat) : Int)) by omega]
          exact this
        · exact ⟨s, rfl, hI.1⟩
    have h0 := HT_x (D := D1) (hs := hi w y) (x := x) (d := 0) (ti w (20 + 5 * pw w x + pc w x)) (HT_0 x h3) hx
    exact key 61 F 0 _ (by omega) (by omega) ⟨FX_t (FX_h h2) (fun c hc => sD_nr _ _ _ (by omega)), by rw [show ti w (20 + 5 * pw w x + pc w x) - ((0 : Nat) : Int) = ti w (20 + 5 * pw w x + pc w x) by omega]; exact h0⟩
/-- a store whose world alone is another than FM lets -/
def FW (D D' : mx_D) : Prop := (∀ c, c < 116 → D' c = D c) ∧ (D' 118 = D 118 ∧ D' 119 = D 119 ∧ D' 120 = D 120 ∧ D' 137 = D 137 ∧ D' 138 = D 138) ∧ (D' 116 5 = D 116 5 ∧ D' 116 12 = D 116 12 ∧ D' 116 13 = D 116 13)
theorem FW_r (D : mx_D) : FW D D := ⟨fun _ _ => rfl, ⟨rfl, rfl, rfl, rfl, rfl⟩, ⟨rfl, rfl, rfl⟩⟩
theorem FW_t {D D' D'' : mx_D} (h : FW D D') (h2 : FW D' D'') : FW D D'' := by
  obtain ⟨a1, ⟨a3, a4, a5, a6, a7⟩, a8, a9, a10⟩ := h
  obtain ⟨b1, ⟨b3, b4, b5, b6, b7⟩, b8, b9, b10⟩ := h2
  exact ⟨fun c hc => (b1 c hc).trans (a1 c hc), ⟨b3.trans a3, b4.trans a4, b5.trans a5, b6.trans a6, b7.trans a7⟩, b8.trans a8, b9.trans a9, b10.trans a10⟩
theorem FW_117 {D D' : mx_D} (h : ∀ c, c ≠ 117 → D' c = D c) : FW D D' := by
  have h116 := h 116 (by decide)
  exact ⟨fun c hc => h c (by omega), ⟨h 118 (by decide), h 119 (by decide), h 120 (by decide), h 137 (by decide), h 138 (by decide)⟩, by rw [h116], by rw [h116], by rw [h116]⟩
theorem FW_M {D D' : mx_D} (h : FM D D') : FW D D' := ⟨h.1, h.2.1.2, h.2.2⟩
theorem FM_W {D D' : mx_D} (h : FW D D') (e : D' 117 = D 117) : FM D D' := ⟨h.1, ⟨e, h.2.1⟩, h.2.2⟩
theorem upd_upd (f : Nat → Int32) (k : Nat) (u v : Int32) : upd (upd f k u) k v = upd f k v := by
  funext i
  by_cases c : i = k
  · subst c
    rw [upd_eq, upd_eq]
  · rw [upd_ne _ _ c, upd_ne _ _ c, upd_ne _ _ c]
theorem upd_same (f : Nat → Int32) (k : Nat) : upd f k (f k) = f := by
  funext i
  by_cases c : i = k
  · subst c
    rw [upd_eq]
  · rw [upd_ne _ _ c]
theorem m_digs (hF : 1000 ≤ F) (hW : WF (D 117)) (hU : UQ (D 117)) (a b : Int32) : ∃ D1, g_M_digs F a b D = some (if askS (D 117) a b then ff (fun n => dgb (D 117) b.toNatClampNeg a.toNatClampNeg n) 61 0 else -2, D1) ∧ FM D D1 := by
  have h8 := wf_A8 hW
  have h4 := wf_P4 hW
  have h5 := wf_L5 hW
  unfold g_M_digs
  rw [M_isSitter_s hW, ob_some]
  simp only [b01_if]
  show ∃ D1, (if askS (D 117) a b = true then _ else _) = _ ∧ _
  cases hq : askS (D 117) a b
  · exact ⟨_, rfl, FM_r D⟩
  · obtain ⟨x, y, rfl, hx, rfl, hy, hs, -⟩ := askS_t hW hq
    obtain ⟨x1, x2, x3, x4⟩ := wf_sit hW hx hs
    rw [if_pos rfl, if_pos rfl, nI_clamp (by omega), nI_clamp (by omega), M_of_s D (by omega) (by decide), ob_some, M_of_s D (by omega) (by decide), ob_some, x1, x3, M_trenchAt_s, rk_in (by omega) (by decide), nI_clamp (by omega)]
    -- the world with whatever trench there
    have fin : ∀ (s : mx_D) (v r : Int32), s 117 = upd (D 117) (20 + 5 * pw (D 117) x + pc (D 117) x) v → FW D s → ∃ D1, rk 106 (nI (20 + 5 * pw (D 117) x + pc (D 117) x)) (some (r, sD s 117 (nI (20 + 5 * pw (D 117) x + pc (D 117) x)).toNatClampNeg (D 117 (20 + 5 * pw (D 117) x + pc (D 117) x)))) = some (r, D1) ∧ FM D D1 := by
      intro s v r hsv hfw
      rw [rk_in (by omega) (by decide), nI_clamp (by omega)]
      refine ⟨_, rfl, FM_W (FW_t hfw (FW_117 (fun c hc => sD_nr _ _ _ hc))) ?_⟩
      rw [sD_117, hsv, upd_upd, upd_same]
    have key : ∀ (k f n : Nat) (s : mx_D) (v : Int32), n + k = 61 → k < f → s 117 = upd (D 117) (20 + 5 * pw (D 117) x + pc (D 117) x) v → FW D s → ∃ D1, g_M_digs_43 F f (nI y) (nI (20 + 5 * pw (D 117) x + pc (D 117) x)) (D 117 (20 + 5 * pw (D 117) x + pc (D 117) x)) (-1) (nI n) s = some (ff (fun n => dgb (D 117) y x n) k n, D1) ∧ FM D D1 := by
      intro k
      induction k with
      | zero =>
        intro f n s v hn hf hsv hfw
        obtain ⟨f, rfl⟩ : ∃ g, f = g + 1 := ⟨f - 1, by omega⟩
        obtain rfl : n = 61 := by omega
        rw [s_M_digs_43]
        unfold b_M_digs_43
        rw [if_pos (by decide)]
        exact fin s v _ hsv hfw
      | succ k ih =>
        intro f n s v hn hf hsv hfw
        obtain ⟨f, rfl⟩ : ∃ g, f = g + 1 := ⟨f - 1, by omega⟩
        have e117 : sD s 117 (20 + 5 * pw (D 117) x + pc (D 117) x) (nI n) 117 = upd (D 117) (20 + 5 * pw (D 117) x + pc (D 117) x) (nI n) := by rw [sD_117, hsv, upd_upd]
        have hw : WF (sD s 117 (20 + 5 * pw (D 117) x + pc (D 117) x) (nI n) 117) := by
          rw [e117]
          exact WF_tren hW (by omega) (by rw [nI_toInt (by omega)]; omega)
        obtain ⟨D1, h1, h2, h3⟩ := M_isLevel_s (F := F) (by omega) hw (y := y) (by omega)
        have ew : D1 117 = upd (D 117) (20 + 5 * pw (D 117) x + pc (D 117) x) (nI n) := by rw [h2 117 (by decide), e117]
        have fw : FW D D1 := FW_t hfw (FW_t (FW_117 (fun c hc => sD_nr _ _ _ hc)) (FW_M (FM_123 h2)))
        rw [s_M_digs_43]
        unfold b_M_digs_43
        rw [if_neg (nI_nlt (by omega) (by omega)), if_pos rfl, rk_in (by omega) (by decide), nI_clamp (by omega), h1, ob_some, e117, lev_tr hW hU hx hs n y (by omega), nI_add]
        simp only [b01_if]
        have e : ff (fun n => dgb (D 117) y x n) (k + 1) n = if dgb (D 117) y x n = true then nI n else ff (fun n => dgb (D 117) y x n) k (n + 1) := rfl
        rw [e]
        cases dgb (D 117) y x n
        · exact ih f (n + 1) D1 (nI n) (by omega) (by omega) ew fw
        · rw [if_pos rfl, if_pos rfl]
          obtain ⟨f, rfl⟩ : ∃ g, f = g + 1 := ⟨f - 1, by omega⟩
          rw [s_M_digs_43]
          unfold b_M_digs_43
          obtain ⟨D2, q1, q2⟩ := fin D1 (nI n) (nI n) ew fw
          refine ⟨D2, ?_, q2⟩
          by_cases c : nI 60 < nI (n + 1)
          · rw [if_pos c]
            exact q1
          · rw [if_neg c, if_neg (nI_m1 (by omega))]
            exact q1
    exact key 61 F 0 D (D 117 (20 + 5 * pw (D 117) x + pc (D 117) x)) (by omega) (by omega) (upd_same _ _).symm (FW_r D)
/-! pair -/
theorem hi_swp (hW : WF w) {a b : Nat} (ha : a < nA w) (hb : b < nA w) (hab : a ≠ b) (sa : st w a = true) (sb : st w b = true) {z : Nat} (hz : z < nA w) (y : Nat) : hi (swp w a b) y z = (if z = a then hi w y a + (flo w (pw w b) (pc w b) - flo w (pw w a) (pc w a)) else if z = b then hi w y b - (flo w (pw w b) (pc w b) - flo w (pw w a) (pc w a)) else hi w y z) := by
  have h8 := wf_A8 hW
  have r := swp_r w hab z
  have n : ∀ k, (k < 40 ∨ 88 ≤ k) → swp w a b k = w k := fun k hk => swp_n _ _ _ (by omega)
  have eb := bod_c (w' := swp w a b) hW hz (n _ (by omega)) (swp_n _ _ _ (by omega)) (swp_n _ _ _ (by omega)) (swp_n _ _ _ (by omega)) (swp_n _ _ _ (by omega)) (fun i q1 q2 => n _ (by omega)) y
  have ef : ∀ p i, p < 4 → i < 5 → flo (swp w a b) p i = flo w p i := fun p i hp hi => by
    unfold flo
    rw [ti_c (n _ (by omega)), ti_c (n _ (by omega)), ti_c (n _ (by omega))]
  have h4 := wf_P4 hW
  have h5 := wf_L5 hW
  obtain ⟨a1, a2, a3, a4⟩ := wf_sit hW ha sa
  obtain ⟨b1, b2, b3, b4⟩ := wf_sit hW hb sb
  have ha2 : hi w y a = bod w y a + flo w (pw w a) (pc w a) := by
    unfold hi
    rw [sa, if_pos rfl]
  have hb2 : hi w y b = bod w y b + flo w (pw w b) (pc w b) := by
    unfold hi
    rw [sb, if_pos rfl]
  have es : st (swp w a b) z = st w (if z = a then b else if z = b then a else z) := by unfold st; rw [r.1]
  have ep : pw (swp w a b) z = pw w (if z = a then b else if z = b then a else z) := by unfold pw; rw [r.1]
  have ec : pc (swp w a b) z = pc w (if z = a then b else if z = b then a else z) := by unfold pc; rw [r.2]
  have main : hi (swp w a b) y z = bod w y z + (if st (swp w a b) z = true then flo (swp w a b) (pw (swp w a b) z) (pc (swp w a b) z) else 0) := by
    rw [← eb]
    rfl
  rw [main, es, ep, ec]
  by_cases c1 : z = a
  · rw [if_pos c1, if_pos c1, sb, if_pos rfl, ef _ _ (by omega) (by omega), ha2, c1]
    omega
  · rw [if_neg c1, if_neg c1]
    by_cases c2 : z = b
    · rw [if_pos c2, if_pos c2, sa, if_pos rfl, ef _ _ (by omega) (by omega), hb2, c2]
      omega
    · rw [if_neg c2, if_neg c2]
      cases hs : st w z
      · unfold hi
        rw [hs, if_neg (by decide), if_neg (by decide)]
      · obtain ⟨z1, z2, z3, z4⟩ := wf_sit hW hz hs
        rw [if_pos rfl, ef _ _ (by omega) (by omega)]
        unfold hi
        rw [hs, if_pos rfl]
theorem swp_swp (w : W_) {a b : Nat} (hab : a ≠ b) : swp (swp w a b) a b = w := by
  funext i
  by_cases h : i ≠ 40 + 6 * a + 3 ∧ i ≠ 40 + 6 * a + 4 ∧ i ≠ 40 + 6 * b + 3 ∧ i ≠ 40 + 6 * b + 4
  · rw [swp_n _ _ _ h, swp_n _ _ _ h]
  · have e : ∀ z, swp (swp w a b) a b (40 + 6 * z + 3) = w (40 + 6 * z + 3) ∧ swp (swp w a b) a b (40 + 6 * z + 4) = w (40 + 6 * z + 4) := by
      intro z
      have r1 := swp_r (swp w a b) hab z
      rw [r1.1, r1.2]
      have r2 := swp_r w hab (if z = a then b else if z = b then a else z)
      rw [r2.1, r2.2]
      have : (if (if z = a then b else if z = b then a else z) = a then b else if (if z = a then b else if z = b then a else z) = b then a else (if z = a then b else if z = b then a else z)) = z := by
        by_cases c1 : z = a
        · rw [if_pos c1, if_neg (by omega), if_pos rfl]
          omega
        · rw [if_neg c1]
          by_cases c2 : z = b
          · rw [if_pos c2, if_pos rfl]
            omega
          · rw [if_neg c2, if_neg c1, if_neg c2]
      rw [this]
      exact ⟨rfl, rfl⟩
    rcases (show i = 40 + 6 * a + 3 ∨ i = 40 + 6 * a + 4 ∨ i = 40 + 6 * b + 3 ∨ i = 40 + 6 * b + 4 by omega) with q | q | q | q
    · rw [q]; exact (e a).1
    · rw [q]; exact (e a).2
    · rw [q]; exact (e b).1
    · rw [q]; exact (e b).2
theorem sM_swp {a b : Nat} (hab : a ≠ b) (sa : st w a = true) (sb : st w b = true) : sM (swp w a b) = sM w := by
  have eA : nA (swp w a b) = nA w := by unfold nA; rw [swp_n _ _ _ (by omega)]
  unfold sM
  rw [eA]
  refine mk_c _ (fun i hi => ?_)
  have r := swp_r w hab i
  have : st (swp w a b) i = st w (if i = a then b else if i = b then a else i) := by unfold st; rw [r.1]
  rw [this]
  by_cases c1 : i = a
  · rw [if_pos c1, sb, c1, sa]
  · rw [if_neg c1]
    by_cases c2 : i = b
    · rw [if_pos c2, sa, c2, sb]
    · rw [if_neg c2]
/-- SPREAD if two change -/
def prh (w : W_) (y a b : Nat) : Nat → Int := fun z => if z = a then hi w y a + (flo w (pw w b) (pc w b) - flo w (pw w a) (pc w a)) else if z = b then hi w y b - (flo w (pw w b) (pc w b) - flo w (pw w a) (pc w a)) else hi w y z
def prs (w : W_) (y a b : Nat) (t : Int × Int32) : Int × Int32 := if st w a = true ∧ st w b = true then (if spr (prh w y a b) (sM w) < t.1 then (spr (prh w y a b) (sM w), nI (10 * a + b)) else t) else t
def pri (w : W_) (y a : Nat) (t : Int × Int32) (k : Nat) : Int × Int32 := fo (fun j t => prs w y a (a + 1 + j) t) t k
def prf (w : W_) (y : Nat) : Nat → Int × Int32 := fo (fun a t => pri w y a t (nA w - (a + 1))) (spr (hi w y) (sM w), -1)
theorem prh_r (hW : WF w) {a b y : Nat} (ha : a < nA w) (hb : b < nA w) (sa : st w a = true) (sb : st w b = true) (hy : y ≤ 30) : ∀ z, z < nA w → -10000 < prh w y a b z ∧ prh w y a b z < 10000 := fun z hz => by
  have h4 := wf_P4 hW
  have h5 := wf_L5 hW
  obtain ⟨a1, a2, a3, a4⟩ := wf_sit hW ha sa
  obtain ⟨b1, b2, b3, b4⟩ := wf_sit hW hb sb
  have q1 := hi_b hW hz hy
  have q2 := hi_b hW ha hy
  have q3 := hi_b hW hb hy
  have q4 := flo_b hW (p := pw w a) (i := pc w a) (by omega) (by omega)
  have q5 := flo_b hW (p := pw w b) (i := pc w b) (by omega) (by omega)
  unfold prh
  split
  · omega
  · split <;> omega
theorem prs_b (hW : WF w) {a b y : Nat} (ha : a < nA w) (hb : b < nA w) (hy : y ≤ 30) {t : Int × Int32} (ht : 0 ≤ t.1 ∧ t.1 ≤ 20000) : 0 ≤ (prs w y a b t).1 ∧ (prs w y a b t).1 ≤ 20000 := by
  unfold prs
  by_cases c : st w a = true ∧ st w b = true
  · rw [if_pos c]
    have := spr_u (hs := prh w y a b) (sM_256 hW) (fun x hx => prh_r hW ha hb c.1 c.2 hy x (sub_sM w x hx))
    split
    · exact this
    · exact ht
  · rw [if_neg c]
    exact ht
theorem pri_b (hW : WF w) {a y : Nat} (ha : a < nA w) (hy : y ≤ 30) {t : Int × Int32} (ht : 0 ≤ t.1 ∧ t.1 ≤ 20000) : ∀ k, a + 1 + k ≤ nA w → 0 ≤ (pri w y a t k).1 ∧ (pri w y a t k).1 ≤ 20000
  | 0, _ => ht
  | k + 1, hk => prs_b hW ha (by omega) hy (pri_b hW ha hy ht k (by omega))
theorem prf_b (hW : WF w) {y : Nat} (hy : y ≤ 30) : ∀ n, n ≤ nA w → 0 ≤ (prf w y n).1 ∧ (prf w y n).1 ≤ 20000
  | 0, _ => spr_u (sM_256 hW) (fun x hx => hi_r hW hy x (sub_sM w x hx))
  | n + 1, hn => pri_b hW (by omega) hy (prf_b hW hy n (by omega)) _ (by omega)
theorem m_pair (hF : 1000 ≤ F) (hW : WF (D 117)) (a : Int32) : ∃ D1, g_M_pair F a D = some (if decide (0 < nP (D 117)) && vx a 31 then (prf (D 117) a.toNatClampNeg (nA (D 117))).2 else -2, D1) ∧ FM D D1 := by
  have h8 := wf_A8 hW
  unfold g_M_pair
  rw [M_isYear_s hW]
  simp only [b01_if]
  rcases vx_c a 31 (by decide) with h | ⟨y, hy, rfl⟩
  · rw [h, Bool.and_false]
    exact ⟨_, rfl, FM_r D⟩
  · rw [vx_nI (by omega), decide_eq_true hy, Bool.and_true]
    cases decide (0 < nP (D 117))
    · exact ⟨_, rfl, FM_r D⟩
    · obtain ⟨D1, h1, h2, h3⟩ := M_lay_s (F := F) (by omega) hW y
      have ew := h2 117 (by decide)
      have hw : WF (D1 117) := by rw [ew]; exact hW
      rw [if_pos rfl, if_pos rfl, h1, ob_some, M_sitters_s (by omega) hw, ob_some, M_spreadOf_s (by omega) hw (hs := hi (D 117) y) (by rw [ew]; exact h3) (by rw [ew]; exact hi_r hW (by omega)) (sub_sM _), ob_some, ew, nI_clamp (by omega)]
      have key := lp0 (F := F) (s := D1) (fun n (s : mx_D) => FM D s) (fun (r : Int32 × mx_D) => r.1 = (prf (D 117) y (nA (D 117))).2 ∧ FM D r.2) (fun f n s => g_M_pair_30 F f (nI y) (iI (prf (D 117) y n).1) (prf (D 117) y n).2 (nI n) s) (n := nA (D 117)) (by omega) (FM_123 h2) (fun f n s hn hI => ?_) (fun f s hI => ?_)
      · obtain ⟨r, e1, e2, e3⟩ := key
        exact ⟨r.2, by rw [← e2]; exact e1, e3⟩
      · have es := hI.2.1.1
        have hs : WF (s 117) := by rw [es]; exact hW
        have eo : prf (D 117) y (n + 1) = pri (D 117) y n (prf (D 117) y n) (nA (D 117) - (n + 1)) := rfl
        have pb := prf_b hW (y := y) (by omega) n (by omega)
        -- the inner loop ends in the outer's next turn
        have inner : ∀ (k g j : Nat) (u : mx_D), n + 1 + j + k = nA (D 117) → k < g → FM D u → ∃ u', FM D u' ∧ g_M_pair_47 F (g_M_pair_30 F f) g (nI y) (iI (pri (D 117) y n (prf (D 117) y n) j).1) (pri (D 117) y n (prf (D 117) y n) j).2 (nI n) (nI (n + 1 + j)) u = g_M_pair_30 F f (nI y) (iI (pri (D 117) y n (prf (D 117) y n) (j + k)).1) (pri (D 117) y n (prf (D 117) y n) (j + k)).2 (nI (n + 1)) u' := by
          intro k
          induction k with
          | zero =>
            intro g j u hj hg hu
            obtain ⟨g, rfl⟩ : ∃ z, g = z + 1 := ⟨g - 1, by omega⟩
            have eu := hu.2.1.1
            refine ⟨u, hu, ?_⟩
            rw [s_M_pair_47]
            unfold b_M_pair_47
            rw [eu, wf_A hW, if_pos (nI_le (by omega) (by omega)), nI_add]
            rfl
          | succ k ih =>
            intro g j u hj hg hu
            obtain ⟨g, rfl⟩ : ∃ z, g = z + 1 := ⟨g - 1, by omega⟩
            have eu := hu.2.1.1
            have hwu : WF (u 117) := by rw [eu]; exact hW
            have hbn : n + 1 + j < nA (D 117) := by omega
            have hab : n ≠ n + 1 + j := by omega
            have ee : pri (D 117) y n (prf (D 117) y n) (j + 1) = prs (D 117) y n (n + 1 + j) (pri (D 117) y n (prf (D 117) y n) j) := rfl
            have bj := pri_b hW hn (y := y) (by omega) pb j (by omega)
            rw [s_M_pair_47]
            unfold b_M_pair_47
            rw [eu, wf_A hW, if_neg (nI_ge hbn (by omega)), M_areTwo_s hwu, ob_some, eu, vx_nI (by omega), vx_nI (by omega), decide_eq_true hn, decide_eq_true hbn, decide_eq_false (fun z => hab ((nI_eq (by omega) (by omega)).mp z)), nI_clamp (by omega), nI_clamp (by omega), nI_add, b01_if]
            have goon : ∀ (u2 : mx_D), FM D u2 → ∃ u', FM D u' ∧ g_M_pair_47 F (g_M_pair_30 F f) g (nI y) (iI (pri (D 117) y n (prf (D 117) y n) (j + 1)).1) (pri (D 117) y n (prf (D 117) y n) (j + 1)).2 (nI n) (nI (n + 1 + j + 1)) u2 = g_M_pair_30 F f (nI y) (iI (pri (D 117) y n (prf (D 117) y n) (j + (k + 1))).1) (pri (D 117) y n (prf (D 117) y n) (j + (k + 1))).2 (nI (n + 1)) u' := fun u2 h2 => by
              have := ih g (j + 1) u2 (by omega) (by omega) h2
              rw [show j + 1 + k = j + (k + 1) by omega, show n + 1 + (j + 1) = n + 1 + j + 1 by omega] at this
              exact this
            cases hs1 : st (D 117) n
            · rw [if_neg (by simp)]
              obtain ⟨u', q1, q2⟩ := goon u hu
              refine ⟨u', q1, ?_⟩
              rw [← q2, ee]
              unfold prs
              rw [if_neg (by rw [hs1]; simp)]
            · cases hs2 : st (D 117) (n + 1 + j)
              · rw [if_neg (by simp)]
                obtain ⟨u', q1, q2⟩ := goon u hu
                refine ⟨u', q1, ?_⟩
                rw [← q2, ee]
                unfold prs
                rw [if_neg (by rw [hs2]; simp)]
              · rw [if_pos (by simp)]
                obtain ⟨D2, t1, t2, t3⟩ := M_trade_s (x := n) (y := n + 1 + j) (by omega) (by omega) hab eu
                have w2 : WF (D2 117) := by rw [t2]; exact WF_swp hW hn hbn hs1 hs2
                obtain ⟨D3, l1, l2, l3⟩ := M_lay_s (F := F) (by omega) w2 y
                have e3 : D3 117 = swp (D 117) n (n + 1 + j) := by rw [l2 117 (by decide), t2]
                have w3 : WF (D3 117) := by rw [e3]; exact WF_swp hW hn hbn hs1 hs2
                have eA : nA (swp (D 117) n (n + 1 + j)) = nA (D 117) := by unfold nA; rw [swp_n _ _ _ (by omega)]
                rw [t2] at l3
                obtain ⟨D4, t4, t5, t6⟩ := M_trade_s (x := n) (y := n + 1 + j) (by omega) (by omega) hab e3
                rw [swp_swp _ hab] at t5
                have f4 : FM D D4 := FM_t hu (FM_W (FW_t (FW_117 t3) (FW_t (FW_M (FM_123 l2)) (FW_117 t6))) (by rw [t5, eu]))
                have hr : ∀ z, z < nA (D3 117) → -10000 < hi (D3 117) y z ∧ hi (D3 117) y z < 10000 := hi_r w3 (by omega)
                have hsp : spr (hi (swp (D 117) n (n + 1 + j)) y) (sM (D 117)) = spr (prh (D 117) y n (n + 1 + j)) (sM (D 117)) := spr_c (fun z hz => hi_swp hW hn hbn hab hs1 hs2 (sub_sM _ z hz) y)
                have hu2 := spr_u (hs := prh (D 117) y n (n + 1 + j)) (sM_256 hW) (fun x hx => prh_r hW hn hbn hs1 hs2 (by omega) x (sub_sM _ x hx))
                rw [t1, ob_some, l1, ob_some, M_sitters_s (by omega) w3, ob_some, M_spreadOf_s (by omega) w3 (hs := hi (D3 117) y) (by rw [e3]; exact l3) hr (sub_sM _), ob_some, t4, ob_some, e3, sM_swp hab hs1 hs2, hsp, pk_mul, nI_add]
                obtain ⟨u', q1, q2⟩ := goon D4 f4
                refine ⟨u', q1, ?_⟩
                rw [← q2, ee]
                unfold prs
                have hlt := iI_lt (a := spr (prh (D 117) y n (n + 1 + j)) (sM (D 117))) (b := (pri (D 117) y n (prf (D 117) y n) j).1) (by omega) (by omega) (by omega) (by omega)
                rw [if_pos (show st (D 117) n = true ∧ st (D 117) (n + 1 + j) = true from ⟨hs1, hs2⟩)]
                by_cases c : spr (prh (D 117) y n (n + 1 + j)) (sM (D 117)) < (pri (D 117) y n (prf (D 117) y n) j).1
                · rw [if_pos (hlt.mpr c), if_pos c]
                · rw [if_neg (fun z => c (hlt.mp z)), if_neg c]
        obtain ⟨u', q1, q2⟩ := inner (nA (D 117) - (n + 1)) F 0 s (by omega) (by omega) hI
        refine ⟨u', q1, ?_⟩
        show g_M_pair_30 F (f + 1) _ _ _ _ _ = _
        rw [s_M_pair_30]
        unfold b_M_pair_30
        rw [es, wf_A hW, if_neg (nI_ge hn (by omega)), nI_add, eo]
        rw [Nat.zero_add] at q2
        exact q2
      · refine ⟨((prf (D 117) y (nA (D 117))).2, s), ?_, rfl, hI⟩
        have es := hI.2.1.1
        show g_M_pair_30 F (f + 1) _ _ _ _ _ = _
        rw [s_M_pair_30]
        unfold b_M_pair_30
        rw [es, wf_A hW, if_pos (nI_le (Nat.le_refl _) (by omega))]
end TR
