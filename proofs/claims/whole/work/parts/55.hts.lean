/-! ===== the class's heights ===== -/
section HTs
variable {D : mx_D} {w : W_} {F : Nat}
theorem fill_36 (hF : 100 ≤ F) (v : Int32) (D : mx_D) : ∃ D', g_Arrays_fill_36 F v D = some D' ∧ (∀ c, c ≠ 36 → D' c = D c) ∧ ∀ j, j < 4 → D' 36 j = v := by
  unfold g_Arrays_fill_36
  refine lp0 (F := F) (fun a (s : mx_D) => (∀ c, c ≠ 36 → s c = D c) ∧ ∀ j, j < a → s 36 j = v) (fun D' => (∀ c, c ≠ 36 → D' c = D c) ∧ ∀ j, j < 4 → D' 36 j = v) (fun f a s => g_Arrays_fill_36_5 F f v (nI a) (nI 4) s) (n := 4) (by omega) ⟨fun _ _ => rfl, fun x hx => absurd hx (Nat.not_lt_zero x)⟩ (fun f a s ha hI => ?_) (fun f s hI => ?_)
  · refine ⟨sD s 36 a v, ⟨fun c hc => ?_, fun j hj => ?_⟩, ?_⟩
    · rw [sD_nr _ _ _ hc, hI.1 c hc]
    · by_cases q : j = a
      · subst q
        rw [sD_eq]
      · rw [sD_nj _ _ _ q, hI.2 j (by omega)]
    · rw [s_Arrays_fill_36_5]
      unfold b_Arrays_fill_36_5
      rw [if_neg (nI_ge ha (by decide)), rk_in ha (by decide), nI_clamp (by omega), nI_add]
  · refine ⟨s, ?_, hI⟩
    rw [s_Arrays_fill_36_5]
    unfold b_Arrays_fill_36_5
    rw [if_pos (nI_le (Nat.le_refl _) (by decide))]
/-- the heights as they are laid: of n people -/
def HT (D : mx_D) (n : Nat) (hs : Nat → Int) (pm : Nat → Nat) (sm : Nat) (b : Bool) : Prop :=
  (∀ x, x < n → D 35 x = iI (hs x)) ∧ (∀ p, p < 4 → D 36 p = nI (pm p)) ∧ D 34 2 = nI sm ∧ D 34 3 = b01 b
theorem CC_of {D' : mx_D} (h : CC D w) (e : ∀ c, c < 34 → D' c = D c) : CC D' w := CH_of h (fun k h1 h2 => e k (by omega))
theorem H_put_s {x p : Nat} (hx : x < 8) (hp : p < 4) (v : Int32) (D : mx_D) : ∃ D', g_Heights_put (nI x) (nI p) v D = some D' ∧ (∀ c, c < 34 ∨ 36 < c → D' c = D c) ∧ D' 35 = upd (D 35) x v ∧ D' 36 = upd (D 36) p (D 36 p ||| nI (2 ^ x)) ∧ D' 34 = upd (D 34) 2 (D 34 2 ||| nI (2 ^ x)) := by
  refine ⟨sD (sD (sD D 35 x v) 36 p (D 36 p ||| nI (2 ^ x))) 34 2 (D 34 2 ||| nI (2 ^ x)), ?_, fun c hc => ?_, ?_, ?_, ?_⟩
  · unfold g_Heights_put
    rw [rk_in hx (by decide), rk_in hp (by decide), rk_in hp (by decide), nb_shl x (by omega), nI_clamp (by omega), nI_clamp (by omega), sD_ne _ _ _ _ (show 36 ≠ 35 by decide), sD_ne _ _ _ _ (show 34 ≠ 36 by decide), sD_ne _ _ _ _ (show 34 ≠ 35 by decide)]
  · rw [sD_nr _ _ _ (by omega), sD_nr _ _ _ (by omega), sD_nr _ _ _ (by omega)]
  · rw [sD_nr _ _ _ (by decide), sD_nr _ _ _ (by decide), sD_row]
  · rw [sD_nr _ _ _ (by decide), sD_row, sD_nr _ _ _ (by decide)]
  · rw [sD_row, sD_nr _ _ _ (by decide), sD_nr _ _ _ (by decide)]
theorem upd_eq (f : Nat → Int32) (j : Nat) (v : Int32) : upd f j v j = v := by simp [upd]
theorem upd_ne (f : Nat → Int32) {j i : Nat} (v : Int32) (h : i ≠ j) : upd f j v i = f i := by simp [upd, h]
theorem ba_b (hw : WF w) : w 3 = b01 (ba w) := by
  unfold ba
  rcases wf_3 hw with q | q
  · rw [q, decide_eq_false (by decide)]
    rfl
  · rw [q, decide_eq_true rfl]
    rfl
theorem H_take_s (hF : 100 ≤ F) (h : CC D w) (hw : WF w) (y : Nat) : ∃ D', g_Heights_take F (nI y) D = some D' ∧ (∀ c, c < 34 ∨ 36 < c → D' c = D c) ∧ HT D' (nA w) (hi w y) (pM w) (sM w) (ba w) := by
  have h8 := wf_A8 hw
  have hP := wf_P4 hw
  obtain ⟨D1, e1, f1, g1⟩ := fill_36 (F := F) hF (nI 0) D
  unfold g_Heights_take
  rw [e1, ob_some, sD_ne _ _ _ _ (show 19 ≠ 34 by decide), f1 19 (by decide), c_3 h, ba_b hw, zk_b]
  refine lp0 (F := F) (fun a (s : mx_D) => (∀ c, c < 34 ∨ 36 < c → s c = D c) ∧ (∀ x, x < a → s 35 x = iI (hi w y x)) ∧ (∀ p, p < 4 → s 36 p = nI (mk (fun x => decide (w (40 + 6 * x + 3) = nI p)) a)) ∧ s 34 2 = nI (mk (fun x => st w x) a) ∧ s 34 3 = b01 (ba w)) (fun D' => (∀ c, c < 34 ∨ 36 < c → D' c = D c) ∧ HT D' (nA w) (hi w y) (pM w) (sM w) (ba w)) (fun f a s => g_Heights_take_23 F f (nI y) (nI a) s) (n := nA w) (by omega) ⟨fun c hc => ?_, fun x hx => absurd hx (Nat.not_lt_zero x), fun p hp => ?_, ?_, ?_⟩ (fun f a s ha hI => ?_) (fun f s hI => ?_)
  · rw [sD_nr _ _ _ (by omega), sD_nr _ _ _ (by omega), f1 c (by omega)]
  · rw [sD_ne _ _ _ _ (show 36 ≠ 34 by decide), sD_ne _ _ _ _ (show 36 ≠ 34 by decide), g1 p hp]
    rfl
  · rw [sD_nj _ _ _ (show 2 ≠ 3 by decide), sD_eq]
    rfl
  · rw [sD_eq]
  · obtain ⟨i1, i2, i3, i4, i5⟩ := hI
    have hc : CC s w := CC_of h (fun c hc => i1 c (by omega))
    have hc1 : CC (sD s 35 a (iI (hi w y a))) w := CC_of hc (fun c hc => sD_nr _ _ _ (by omega))
    have e0 : g_Heights_take_23 F (f + 1) (nI y) (nI a) s = (if st w a = true then Option.bind (g_Heights_put (nI a) (nI (pw w a)) (iI (hi w y a)) (sD s 35 a (iI (hi w y a)))) (fun r4 => g_Heights_take_23 F f (nI y) (nI (a + 1)) r4) else g_Heights_take_23 F f (nI y) (nI (a + 1)) (sD s 35 a (iI (hi w y a)))) := by
      rw [s_Heights_take_23]
      unfold b_Heights_take_23
      rw [c_24 hc, wf_A hw, if_neg (nI_ge ha (by omega)), C_highOf_s hF hc hw ha, ob_some, rk_in (by omega) (by decide), nI_clamp (by omega), C_seat_s hc1 hw ha, ob_some, rk_in (by omega) (by decide), nI_add]
      simp only [b01_z]
      cases hs : st w a
      · rfl
      · rw [if_neg (by decide), if_pos rfl, sD_ne _ _ _ _ (show 28 ≠ 35 by decide), c_28 hc ha, (wf_sit hw ha hs).1]
    cases hs : st w a
    · rw [hs, if_neg (by decide)] at e0
      refine ⟨_, ⟨fun c hc => ?_, fun x hx => ?_, fun p hp => ?_, ?_, ?_⟩, e0⟩
      · rw [sD_nr _ _ _ (by omega), i1 c hc]
      · by_cases q : x = a
        · subst q
          rw [sD_eq]
        · rw [sD_nj _ _ _ q, i2 x (by omega)]
      · rw [sD_ne _ _ _ _ (show 36 ≠ 35 by decide), i3 p hp, mk_s, (wf_nsit hw ha hs).1, decide_eq_false (fun e => nI_m1 (by omega) e.symm), if_neg (by decide), Nat.or_zero]
      · rw [sD_ne _ _ _ _ (show 34 ≠ 35 by decide), i4, mk_s, hs, if_neg (by decide), Nat.or_zero]
      · rw [sD_ne _ _ _ _ (show 34 ≠ 35 by decide), i5]
    · rw [hs, if_pos rfl] at e0
      obtain ⟨q1, q2, q3, q4⟩ := wf_sit hw ha hs
      obtain ⟨D2, p1, p2, p3, p4, p5⟩ := H_put_s (x := a) (p := pw w a) (by omega) (by omega) (iI (hi w y a)) (sD s 35 a (iI (hi w y a)))
      rw [p1, ob_some] at e0
      refine ⟨D2, ⟨fun c hc => ?_, fun x hx => ?_, fun p hp => ?_, ?_, ?_⟩, e0⟩
      · rw [p2 c hc, sD_nr _ _ _ (by omega), i1 c hc]
      · rw [p3]
        by_cases q : x = a
        · subst q
          rw [upd_eq]
        · rw [upd_ne _ _ q, sD_nj _ _ _ q, i2 x (by omega)]
      · rw [p4, mk_s, q1]
        by_cases q : p = pw w a
        · subst q
          rw [upd_eq, sD_ne _ _ _ _ (show 36 ≠ 35 by decide), i3 _ hp, decide_eq_true rfl, if_pos rfl, nb_or]
        · rw [upd_ne _ _ q, sD_ne _ _ _ _ (show 36 ≠ 35 by decide), i3 _ hp, decide_eq_false (fun e => q ((nI_eq (by omega) (by omega)).mp e).symm), if_neg (by decide), Nat.or_zero]
      · rw [p5, upd_eq, sD_ne _ _ _ _ (show 34 ≠ 35 by decide), i4, mk_s, hs, if_pos rfl, nb_or]
      · rw [p5, upd_ne _ _ (show 3 ≠ 2 by decide), sD_ne _ _ _ _ (show 34 ≠ 35 by decide), i5]
  · obtain ⟨i1, i2, i3, i4, i5⟩ := hI
    have hc : CC s w := CC_of h (fun c hc => i1 c (by omega))
    refine ⟨s, ?_, i1, i2, i3, i4, i5⟩
    rw [s_Heights_take_23]
    unfold b_Heights_take_23
    rw [c_24 hc, wf_A hw, if_pos (nI_le (Nat.le_refl _) (by omega))]
theorem H_spread_s (hF : 100 ≤ F) {n : Nat} (hn : n ≤ 8) {hs : Nat → Int} (hh : ∀ x, x < n → D 35 x = iI (hs x)) (hb : ∀ x, x < n → -10000 < hs x ∧ hs x < 10000) {m : Nat} (hm : sub m n) : g_Heights_spreadOf F D (nI m) = some (iI (spr hs m)) := by
  have h256 := sub_256 hm hn
  have hbm : ∀ x, m.testBit x = true → -10000 < hs x ∧ hs x < 10000 := fun x hx => hb x (hm x hx)
  have hlo : g_Heights_lowestOf F D (nI m) = some (iI (lo hs m 8 10000)) := by
    unfold g_Heights_lowestOf
    refine lu0 (fun f a => g_Heights_lowestOf_6 F D f (nI m) (iI (lo hs m a 10000)) (nI a)) (n := 8) _ (by omega) (fun f a ha => ?_) (fun f => ?_)
    · rw [s_Heights_lowestOf_6]
      unfold b_Heights_lowestOf_6
      have l1 := lo_le hs m 10000 a
      have lb : -10000 < lo hs m a 10000 ∧ lo hs m a 10000 ≤ 10000 := by
        refine ⟨?_, l1.1⟩
        rcases l1.2.2 with q | ⟨x, hx, hxb, q⟩
        · omega
        · have := hbm x hxb
          omega
      have el : lo hs m (a + 1) 10000 = if m.testBit a then min (lo hs m a 10000) (hs a) else lo hs m a 10000 := rfl
      rw [if_neg (nI_ge ha (by decide)), nb_bit (by omega) (by omega), rk_in (by omega) (by decide), nI_clamp (by omega), nI_add, el]
      cases hbt : m.testBit a
      · rw [if_pos (by rfl), if_neg (by decide)]
      · have := hbm a hbt
        rw [if_neg (by decide), if_pos rfl, hh a (hm a hbt), imn_iI (by omega) (by omega) (by omega) (by omega)]
    · rw [s_Heights_lowestOf_6]
      unfold b_Heights_lowestOf_6
      rw [if_pos (nI_le (Nat.le_refl _) (by decide))]
  have htp : g_Heights_tallestOf F D (nI m) = some (iI (tp hs m 8 (-10000))) := by
    unfold g_Heights_tallestOf
    rw [show (-10000 : Int32) = iI (tp hs m 0 (-10000)) from rfl]
    refine lu0 (fun f a => g_Heights_tallestOf_6 F D f (nI m) (iI (tp hs m a (-10000))) (nI a)) (n := 8) _ (by omega) (fun f a ha => ?_) (fun f => ?_)
    · rw [s_Heights_tallestOf_6]
      unfold b_Heights_tallestOf_6
      have t1 := tp_ge hs m (-10000) a
      have tb : tp hs m a (-10000) < 10000 ∧ -10000 ≤ tp hs m a (-10000) := by
        refine ⟨?_, t1.1⟩
        rcases t1.2.2 with q | ⟨x, hx, hxb, q⟩
        · omega
        · have := hbm x hxb
          omega
      have et : tp hs m (a + 1) (-10000) = if m.testBit a then max (tp hs m a (-10000)) (hs a) else tp hs m a (-10000) := rfl
      rw [if_neg (nI_ge ha (by decide)), nb_bit (by omega) (by omega), rk_in (by omega) (by decide), nI_clamp (by omega), nI_add, et]
      cases hbt : m.testBit a
      · rw [if_pos (by rfl), if_neg (by decide)]
      · have := hbm a hbt
        rw [if_neg (by decide), if_pos rfl, hh a (hm a hbt), imx_iI (by omega) (by omega) (by omega) (by omega)]
    · rw [s_Heights_tallestOf_6]
      unfold b_Heights_tallestOf_6
      rw [if_pos (nI_le (Nat.le_refl _) (by decide))]
  unfold g_Heights_spreadOf spr
  by_cases h0 : m = 0
  · rw [if_pos h0, if_pos (by rw [h0]; rfl)]
    rfl
  · rw [if_neg h0, if_neg (fun q => h0 ((nI_z m (by omega)).mp q)), htp, ob_some, hlo, ob_some, iI_sub]
theorem H_apart_s (hF : 100 ≤ F) {n : Nat} (hn : n ≤ 8) {hs : Nat → Int} {pm : Nat → Nat} {sm : Nat} {b : Bool} (hT : HT D n hs pm sm b) (hb : ∀ x, x < n → -10000 < hs x ∧ hs x < 10000) {m : Nat} (hm : sub m n) : g_Heights_apart F D (nI m) = some (iI (apa hs pm b m)) := by
  unfold g_Heights_apart apa
  rw [hT.2.2.2]
  simp only [b01_z]
  cases b
  · rw [if_pos rfl, if_neg (by decide)]
    have hb2 : ∀ k, 0 ≤ fo (fun p s => max s (spr hs (m &&& pm p))) 0 k ∧ fo (fun p s => max s (spr hs (m &&& pm p))) 0 k ≤ 20000 := by
      intro k
      induction k with
      | zero => exact ⟨Int.le_refl 0, (by decide : (0 : Int) ≤ 20000)⟩
      | succ k ih =>
        rw [fo_s]
        have := spr_u (hs := hs) (m := m &&& pm k) (sub_256 (sub_and_l hm) hn) (fun x hx => hb x (sub_and_l hm x hx))
        omega
    refine lu0 (fun f p => g_Heights_apart_17 F D f (nI m) (iI (fo (fun p s => max s (spr hs (m &&& pm p))) 0 p)) (nI p)) (n := 4) _ (by omega) (fun f p hp => ?_) (fun f => ?_)
    · rw [s_Heights_apart_17]
      unfold b_Heights_apart_17
      have hu := spr_u (hs := hs) (m := m &&& pm p) (sub_256 (sub_and_l hm) hn) (fun x hx => hb x (sub_and_l hm x hx))
      have h2 := hb2 p
      rw [if_neg (nI_ge hp (by decide)), rk_in hp (by decide), nI_clamp (by omega), hT.2.1 p hp, nb_and, H_spread_s hF hn hT.1 hb (sub_and_l hm), ob_some, imx_iI (by omega) (by omega) (by omega) (by omega), nI_add, fo_s]
    · rw [s_Heights_apart_17]
      unfold b_Heights_apart_17
      rw [if_pos (nI_le (Nat.le_refl _) (by decide))]
  · rw [if_neg (by decide), if_pos rfl, H_spread_s hF hn hT.1 hb hm, ob_some]
theorem X_allAreLevel_s (hF : 100 ≤ F) (h : CC D w) (hw : WF w) {n : Nat} (hn : n ≤ 8) {hs : Nat → Int} {pm : Nat → Nat} {sm : Nat} {b : Bool} (hT : HT D n hs pm sm b) (hb : ∀ x, x < n → -10000 < hs x ∧ hs x < 10000) (hm : sub sm n) : g_X_allAreLevel F D = some (b01 (decide (apa hs pm b sm ≤ nV w))) := by
  have hv := wf_V30 hw
  have hu := apa_b (pm := pm) (b := b) hn hm hb
  have hlt := iI_lt (a := (nV w : Int)) (b := apa hs pm b sm) (by omega) (by omega) (by omega) (by omega)
  unfold g_X_allAreLevel
  rw [hT.2.2.1, H_apart_s hF hn hT hb hm, ob_some, c_2 h, wf_V hw, iI_nI (nV w)]
  by_cases hc : apa hs pm b sm ≤ (nV w : Int)
  · rw [if_neg (fun q => by have := hlt.mp q; omega), decide_eq_true hc]
    rfl
  · rw [if_pos (hlt.mpr (by omega)), decide_eq_false hc]
    rfl
theorem X_isLevelIn_s (hF : 100 ≤ F) (h : CC D w) (hw : WF w) {y : Nat} (hy : y ≤ 30) : ∃ D', g_X_isLevelIn F (nI y) D = some (b01 (lev w y), D') ∧ (∀ c, c < 34 ∨ 36 < c → D' c = D c) ∧ HT D' (nA w) (hi w y) (pM w) (sM w) (ba w) := by
  obtain ⟨D', h1, h2, h3⟩ := H_take_s hF h hw y
  refine ⟨D', ?_, h2, h3⟩
  unfold g_X_isLevelIn
  rw [h1, ob_some, X_allAreLevel_s hF (CC_of h (fun c hc => h2 c (by omega))) hw (wf_A8 hw) h3 (hi_r hw hy) (sub_sM w), ob_some, zk_b]
  rfl
end HTs
