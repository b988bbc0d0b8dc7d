/-! ===== years drawn ===== -/
section DR
variable {D : mx_D} {E : mx_E} {w : W_} {F : Nat}
def dN (k : Nat) : Nat := (1103515245 * k + 12345) % 2147483648
def dV (k : Nat) : Nat := k / 65536 % 10
def dS (s : Nat) : Nat → Nat
  | 0 => s
  | n + 1 => dN (dS s n)
theorem dN_lt (k : Nat) : dN k < 2147483648 := Nat.mod_lt _ (by decide)
theorem dV_9 (k : Nat) : dV k ≤ 9 := by
  have : dV k < 10 := Nat.mod_lt _ (by decide)
  omega
theorem dS_lt {s : Nat} (hs : s < 2147483648) : ∀ n, dS s n < 2147483648
  | 0 => hs
  | n + 1 => dN_lt _
theorem dN_s {k : Nat} (hk : k < 2147483648) : (((1103515245 : Int64) * lN k) + (12345 : Int64)) - (((1103515245 : Int64) * lN k) + (12345 : Int64)) / (2147483648 : Int64) * (2147483648 : Int64) = lN (dN k) := by
  rw [show (1103515245 : Int64) = lN 1103515245 from rfl, show (12345 : Int64) = lN 12345 from rfl, show (2147483648 : Int64) = lN 2147483648 from rfl, lN_mul, lN_add, pk_lRem (by omega) (by decide) (by decide)]
  rfl
theorem dV_s {k : Nat} (hk : k < 2147483648) : ((lN k / (65536 : Int64)) - (lN k / (65536 : Int64)) / (10 : Int64) * (10 : Int64)).toInt32 = nI (dV k) := by
  rw [show (65536 : Int64) = lN 65536 from rfl, show (10 : Int64) = lN 10 from rfl, pk_lDiv (by omega) (by decide) (by decide), pk_lRem (by omega) (by decide) (by decide), lN_i]
  rfl
/-- how much one of a people of A has grown in y years drawn -/
def gr (A s : Nat) (y p : Nat) : Nat := fo (fun j t => t + dV (dS s (j * A + p + 1))) 0 y
theorem gr_s (A s y p : Nat) : gr A s (y + 1) p = gr A s y p + dV (dS s (y * A + p + 1)) := rfl
theorem gr_b (A s : Nat) (y p : Nat) : gr A s y p ≤ 9 * y := by
  induction y with
  | zero => exact Nat.le_refl _
  | succ y ih =>
    rw [gr_s]
    have := dV_9 (dS s (y * A + p + 1))
    omega
def hg (w : W_) (s y : Nat) : Nat → Int := fun p => hi w 0 p + gr (nA w) s y p
def hgp (w : W_) (s y q : Nat) : Nat → Int := fun p => if p < q then hg w s (y + 1) p else hg w s y p
theorem hg_r (hW : WF w) (s : Nat) {y : Nat} (hy : y ≤ 30) : ∀ p, p < nA w → -10000 < hg w s y p ∧ hg w s y p < 10000 := fun p hp => by
  have h1 := hi_b hW hp (y := 0) (by omega)
  have h2 := gr_b (nA w) s y p
  unfold hg
  omega
theorem HT_c {n : Nat} {hs hs' : Nat → Int} {pm : Nat → Nat} {sm : Nat} {b : Bool} (hT : HT D n hs pm sm b) (h : ∀ x, x < n → hs x = hs' x) : HT D n hs' pm sm b := ⟨fun x hx => by rw [hT.1 x hx, h x hx], hT.2⟩
theorem HT_set {n : Nat} {hs hs' : Nat → Int} {pm : Nat → Nat} {sm : Nat} {b : Bool} {x : Nat} (hT : HT D n hs pm sm b) (h : ∀ z, z < n → z ≠ x → hs' z = hs z) : HT (sD D 35 x (iI (hs' x))) n hs' pm sm b := by
  refine ⟨fun z hz => ?_, fun p hp => ?_, ?_, ?_⟩
  · by_cases q : z = x
    · subst q
      rw [sD_eq]
    · rw [sD_nj _ _ _ q, hT.1 z hz, h z hz q]
  · rw [sD_ne _ _ _ _ (by decide)]
    exact hT.2.1 p hp
  · rw [sD_ne _ _ _ _ (by decide)]
    exact hT.2.2.1
  · rw [sD_ne _ _ _ _ (by decide)]
    exact hT.2.2.2
theorem H_grow_s (hF : 100 ≤ F) (hW : WF w) {s : Nat} (hs : s < 2147483648) (y : Nat) {pm : Nat → Nat} {sm : Nat} {b : Bool} (hT : HT D (nA w) (hg w s y) pm sm b) : ∃ D1, g_Heights_growByDraws F (lN (dS s (y * nA w))) (nI (nA w)) D = some (lN (dS s ((y + 1) * nA w)), D1) ∧ (∀ c, c ≠ 35 → D1 c = D c) ∧ HT D1 (nA w) (hg w s (y + 1)) pm sm b := by
  have h8 := wf_A8 hW
  unfold g_Heights_growByDraws
  have key := lp0 (F := F) (s := D) (fun q (t : mx_D) => (∀ c, c ≠ 35 → t c = D c) ∧ HT t (nA w) (hgp w s y q) pm sm b) (fun (r : Int64 × mx_D) => r.1 = lN (dS s ((y + 1) * nA w)) ∧ (∀ c, c ≠ 35 → r.2 c = D c) ∧ HT r.2 (nA w) (hg w s (y + 1)) pm sm b) (fun f q t => g_Heights_growByDraws_6 F f (nI (nA w)) (lN (dS s (y * nA w + q))) (nI q) t) (n := nA w) (by omega) ⟨fun _ _ => rfl, HT_c hT (fun x hx => by unfold hgp; rw [if_neg (Nat.not_lt_zero x)])⟩ (fun f q t hq hI => ?_) (fun f t hI => ?_)
  · obtain ⟨r, e1, e2, e3, e4⟩ := key
    exact ⟨r.2, by rw [← e2]; exact e1, e3, e4⟩
  · have hlt := dS_lt hs (y * nA w + q)
    have e1 : hgp w s y q q = hg w s y q := by unfold hgp; rw [if_neg (by omega)]
    have e2 : hgp w s y (q + 1) q = hg w s y q + dV (dS s (y * nA w + q + 1)) := by
      unfold hgp
      rw [if_pos (by omega)]
      unfold hg
      rw [gr_s]
      omega
    refine ⟨sD t 35 q (iI (hgp w s y (q + 1) q)), ⟨fun c hc => ?_, HT_set hI.2 (fun z hz hne => ?_)⟩, ?_⟩
    · rw [sD_nr _ _ _ hc, hI.1 c hc]
    · unfold hgp
      by_cases c : z < q
      · rw [if_pos c, if_pos (by omega)]
      · rw [if_neg c, if_neg (by omega)]
    · show g_Heights_growByDraws_6 F (f + 1) _ _ _ _ = _
      rw [s_Heights_growByDraws_6]
      unfold b_Heights_growByDraws_6
      rw [if_neg (nI_ge hq (by omega)), if_neg (nI_ge (by omega) (by decide)), rk_in (by omega) (by decide), rk_in (by omega) (by decide), nI_clamp (by omega), dN_s hlt, dV_s (dN_lt _), hI.2.1 q hq, nI_add, e1, e2, iI_nI (dV _), iI_add]
      rfl
  · refine ⟨(lN (dS s ((y + 1) * nA w)), t), ?_, rfl, hI.1, HT_c hI.2 (fun x hx => by unfold hgp; rw [if_pos hx])⟩
    show g_Heights_growByDraws_6 F (f + 1) _ _ _ _ = _
    rw [s_Heights_growByDraws_6]
    unfold b_Heights_growByDraws_6
    rw [if_pos (nI_le (Nat.le_refl _) (by omega)), Nat.add_mul, Nat.one_mul]
/-- level in year y, drawn from s -/
def lvd (w : W_) (s y : Nat) : Bool := decide (apa (hg w s y) (pM w) (ba w) (sM w) ≤ nV w)
theorem x_firstDrawn (hF : 1000 ≤ F) (hC : CC D w) (hW : WF w) {s : Nat} (hs : s < 2147483648) {l : Nat} (hl : l ≤ 30) : ∃ D1, g_X_firstUnlevelDrawn F (lN s) (nI l) D = some (ff (fun y => !lvd w s y) (l + 1) 0, D1) ∧ FX D D1 := by
  have h8 := wf_A8 hW
  obtain ⟨D1, h1, h2, h3⟩ := H_take_s (F := F) (by omega) hC hW 0
  unfold g_X_firstUnlevelDrawn
  rw [show nI 0 = nI 0 from rfl, h1, ob_some]
  have key : ∀ (k f y : Nat) (t : mx_D), y + k = l + 1 → k < f → (FX D t ∧ HT t (nA w) (hg w s (y - 1)) (pM w) (sM w) (ba w)) → ∃ D1, g_X_firstUnlevelDrawn_18 F f (nI l) (lN (dS s ((y - 1) * nA w))) (nI y) t = some (ff (fun y => !lvd w s y) k y, D1) ∧ FX D D1 := by
    intro k
    induction k with
    | zero =>
      intro f y t hy hf hI
      obtain ⟨f, rfl⟩ : ∃ g, f = g + 1 := ⟨f - 1, by omega⟩
      obtain rfl : y = l + 1 := by omega
      rw [s_X_firstUnlevelDrawn_18]
      unfold b_X_firstUnlevelDrawn_18
      rw [if_pos (nI_lt (by omega) (by omega))]
      exact ⟨_, rfl, hI.1⟩
    | succ k ih =>
      intro f y t hy hf hI
      obtain ⟨f, rfl⟩ : ∃ g, f = g + 1 := ⟨f - 1, by omega⟩
      have hc : CC t w := CC_of hC (fun c hc => hI.1 c (by omega))
      have e : ff (fun y => !lvd w s y) (k + 1) y = if (!lvd w s y) = true then nI y else ff (fun y => !lvd w s y) k (y + 1) := rfl
      rw [s_X_firstUnlevelDrawn_18]
      unfold b_X_firstUnlevelDrawn_18
      rw [if_neg (nI_nlt (by omega) (by omega)), e, nI_add]
      by_cases y0 : y = 0
      · subst y0
        have eL := X_allAreLevel_s (F := F) (by omega) hc hW h8 hI.2 (hg_r hW s (by omega)) (sub_sM w)
        rw [if_pos (by decide), eL, ob_some]
        simp only [b01_if]
        show ∃ D1, (if lvd w s 0 = true then _ else _) = _ ∧ _
        cases lvd w s 0
        · exact ⟨t, rfl, hI.1⟩
        · exact ih f 1 t (by omega) (by omega) hI
      · obtain ⟨z, rfl⟩ : ∃ z, y = z + 1 := ⟨y - 1, by omega⟩
        rw [Nat.add_sub_cancel] at hI ⊢
        obtain ⟨D2, p1, p2, p3⟩ := H_grow_s (F := F) (by omega) hW hs z hI.2
        have hc2 : CC D2 w := CC_of hc (fun c hc => p2 c (by omega))
        have eL := X_allAreLevel_s (F := F) (by omega) hc2 hW h8 p3 (hg_r hW s (by omega)) (sub_sM w)
        rw [if_neg (nI_nle (by omega) (by omega)), c_24 hc, wf_A hW, p1, ob_some, eL, ob_some]
        simp only [b01_if]
        show ∃ D1, (if lvd w s (z + 1) = true then _ else _) = _ ∧ _
        cases lvd w s (z + 1)
        · exact ⟨D2, rfl, FX_t hI.1 (fun c hc => p2 c (by omega))⟩
        · exact ih f (z + 2) D2 (by omega) (by omega) ⟨FX_t hI.1 (fun c hc => p2 c (by omega)), p3⟩
  have q := key (l + 1) F 0 D1 (by omega) (by omega) ⟨FX_h h2, HT_c h3 (fun x hx => by unfold hg gr; rw [fo_0]; omega)⟩
  simp only [Nat.zero_sub, Nat.zero_mul] at q
  exact q
theorem isSeed_x (a : Int32) : g_X_isSeed a = b01 (vx a 2000000001) := by
  unfold g_X_isSeed
  rw [← has_s a (n := 2000000001) (by decide)]
  by_cases h : a < 0
  · rw [if_pos h, if_pos h]
  · rw [if_neg h, if_neg h]
    have hle : nI 2000000000 < a ↔ nI 2000000001 ≤ a := by
      rw [Int32.lt_iff_toInt_lt, Int32.le_iff_toInt_le, nI_toInt (by decide), nI_toInt (by decide)]
      omega
    by_cases h2 : nI 2000000000 < a
    · rw [if_pos h2, if_pos (hle.mp h2)]
    · rw [if_neg h2, if_neg (fun z => h2 (hle.mpr z))]
theorem x_drawn (hF : 1000 ≤ F) (hC : CC D w) (hW : WF w) (a : Int32) : ∃ D1, g_X_drawn F a D = some (if vx a 2000000001 && decide (0 < nP w) then ff (fun y => !lvd w a.toNatClampNeg y) 31 0 else -2, D1) ∧ FX D D1 := by
  unfold g_X_drawn
  rw [C_isThere_s hC hW, isSeed_x]
  simp only [b01_if]
  rcases vx_c a 2000000001 (by decide) with h | ⟨s, hs, rfl⟩
  · rw [h, Bool.false_and]
    cases decide (0 < nP w)
    · exact ⟨_, rfl, FX_r D⟩
    · exact ⟨_, rfl, FX_r D⟩
  · rw [vx_nI (by omega), decide_eq_true hs, Bool.true_and]
    cases decide (0 < nP w)
    · exact ⟨_, rfl, FX_r D⟩
    · obtain ⟨D1, h1, h2⟩ := x_firstDrawn hF hC hW (s := s) (by omega) (l := 30) (by omega)
      rw [if_pos rfl, if_pos rfl, if_pos rfl, nI_l (by omega), h1, ob_some, nI_clamp (by omega)]
      exact ⟨D1, rfl, h2⟩
theorem x_grown (hF : 1000 ≤ F) (hC : CC D w) (hW : WF w) (a p y : Int32) : ∃ D1, g_X_grown F a p y D = some (if vx a 2000000001 && (vx p (nA w) && vx y 31) then iI (hg w a.toNatClampNeg y.toNatClampNeg p.toNatClampNeg) else -1000, D1) ∧ FX D D1 := by
  have h8 := wf_A8 hW
  unfold g_X_grown
  rw [C_hasPerson_s hC hW, isSeed_x, vx_31]
  simp only [b01_if]
  rcases vx_c a 2000000001 (by decide) with h | ⟨s, hs, rfl⟩
  · rw [h, Bool.false_and]
    exact ⟨_, rfl, FX_r D⟩
  · rw [vx_nI (by omega), decide_eq_true hs, Bool.true_and, if_pos rfl]
    rcases vx_c p (nA w) (by omega) with h | ⟨x, hx, rfl⟩
    · rw [h, Bool.false_and]
      exact ⟨_, rfl, FX_r D⟩
    · rw [vx_nI (by omega), decide_eq_true hx, Bool.true_and, if_pos rfl]
      rcases vx_c y 31 (by decide) with h | ⟨k, hk, rfl⟩
      · rw [h]
        exact ⟨_, rfl, FX_r D⟩
      · obtain ⟨D1, h1, h2, h3⟩ := H_take_s (F := F) (by omega) hC hW 0
        rw [vx_nI (by omega), decide_eq_true hk, if_pos rfl, if_pos rfl, nI_l (by omega), h1, ob_some, nI_clamp (by omega), nI_clamp (by omega), nI_clamp (by omega)]
        have key := lp0 (F := F) (s := D1) (fun j (t : mx_D) => FX D t ∧ HT t (nA w) (hg w s j) (pM w) (sM w) (ba w)) (fun (r : Int32 × mx_D) => r.1 = iI (hg w s k x) ∧ FX D r.2) (fun f j t => g_X_grown_48 F f (nI x) (nI k) (lN (dS s (j * nA w))) (nI (j + 1)) t) (n := k) (by omega) ⟨FX_h h2, HT_c h3 (fun x hx => by unfold hg gr; rw [fo_0]; omega)⟩ (fun f j t hj hI => ?_) (fun f t hI => ?_)
        · obtain ⟨r, e1, e2, e3⟩ := key
          simp only [Nat.zero_mul] at e1
          exact ⟨r.2, by rw [← e2]; exact e1, e3⟩
        · have hc : CC t w := CC_of hC (fun c hc => hI.1 c (by omega))
          obtain ⟨D2, p1, p2, p3⟩ := H_grow_s (F := F) (by omega) hW (s := s) (by omega) j hI.2
          refine ⟨D2, ⟨FX_t hI.1 (fun c hc => p2 c (by omega)), p3⟩, ?_⟩
          show g_X_grown_48 F (f + 1) _ _ _ _ _ = _
          rw [s_X_grown_48]
          unfold b_X_grown_48
          rw [if_neg (nI_nlt (by omega) (by omega)), c_24 hc, wf_A hW, p1, ob_some, nI_add]
        · refine ⟨(iI (hg w s k x), t), ?_, rfl, hI.1⟩
          show g_X_grown_48 F (f + 1) _ _ _ _ _ = _
          rw [s_X_grown_48]
          unfold b_X_grown_48
          rw [if_pos (nI_lt (by omega) (by omega)), rk_in (by omega) (by decide), nI_clamp (by omega), hI.2.1 x hx]
/-! the reference -/
def FE (E E' : mx_E) : Prop := (∀ c, c ≠ 116 → c ≠ 140 → E' c = E c)
theorem FE_r (E : mx_E) : FE E E := fun _ _ _ => rfl
theorem FE_t {E E' E'' : mx_E} (h : FE E E') (h2 : FE E' E'') : FE E E'' := fun c q1 q2 => (h2 c q1 q2).trans (h c q1 q2)
theorem FM_c {D D' : mx_D} (h : ∀ c, c ≠ 123 → c ≠ 136 → D' c = D c) : FM D D' := by
  have h116 := h 116 (by decide) (by decide)
  exact ⟨fun c hc => h c (by omega) (by omega), ⟨h 117 (by decide) (by decide), h 118 (by decide) (by decide), h 119 (by decide) (by decide), h 120 (by decide) (by decide), h 137 (by decide) (by decide), h 138 (by decide) (by decide)⟩, by rw [h116], by rw [h116], by rw [h116]⟩
theorem M_begins_s (hF : 100 ≤ F) (s : Nat) (D : mx_D) (E : mx_E) : ∃ D1 E1, g_M_begins F (lN s) D E = some (D1, E1) ∧ (∀ c, c ≠ 136 → D1 c = D c) ∧ (∀ p, p < 8 → D1 136 p = nI 0) ∧ FE E E1 ∧ E1 116 34 = lN s := by
  unfold g_M_begins
  have key := lp0 (F := F) (s := D) (fun q (t : mx_D) => (∀ c, c ≠ 136 → t c = D c) ∧ ∀ p, p < q → t 136 p = nI 0) (fun (r : mx_D × mx_E) => (∀ c, c ≠ 136 → r.1 c = D c) ∧ (∀ p, p < 8 → r.1 136 p = nI 0) ∧ r.2 = sE E 116 34 (lN s)) (fun f q t => g_M_begins_7 F f (nI q) t (sE E 116 34 (lN s))) (n := 8) (by omega) ⟨fun _ _ => rfl, fun p hp => absurd hp (Nat.not_lt_zero p)⟩ (fun f q t hq hI => ?_) (fun f t hI => ?_)
  · obtain ⟨r, e1, e2, e3, e4⟩ := key
    exact ⟨r.1, r.2, e1, e2, e3, by rw [e4]; exact fun c q1 q2 => sE_nr _ _ _ q1, by rw [e4, sE_eq]⟩
  · refine ⟨sD t 136 q (nI 0), ⟨fun c hc => ?_, fun p hp => ?_⟩, ?_⟩
    · rw [sD_nr _ _ _ hc, hI.1 c hc]
    · by_cases c : p = q
      · subst c
        rw [sD_eq]
      · rw [sD_nj _ _ _ c, hI.2 p (by omega)]
    · show g_M_begins_7 F (f + 1) _ _ _ = _
      rw [s_M_begins_7]
      unfold b_M_begins_7
      rw [if_neg (nI_ge hq (by decide)), rk_in hq (by decide), nI_clamp (by omega), nI_add]
  · refine ⟨(t, sE E 116 34 (lN s)), ?_, hI.1, hI.2, rfl⟩
    show g_M_begins_7 F (f + 1) _ _ _ = _
    rw [s_M_begins_7]
    unfold b_M_begins_7
    rw [if_pos (by decide)]
theorem M_growsOn_s (hF : 100 ≤ F) (hW : WF (D 117)) {s : Nat} (hs : s < 2147483648) (y : Nat) (hg1 : ∀ p, p < nA (D 117) → D 136 p = nI (gr (nA (D 117)) s y p)) (hx : E 116 34 = lN (dS s (y * nA (D 117)))) : ∃ D1 E1, g_M_growsOn F D E = some (D1, E1) ∧ (∀ c, c ≠ 136 → D1 c = D c) ∧ (∀ p, p < nA (D 117) → D1 136 p = nI (gr (nA (D 117)) s (y + 1) p)) ∧ FE E E1 ∧ E1 116 34 = lN (dS s ((y + 1) * nA (D 117))) := by
  have h8 := wf_A8 hW
  unfold g_M_growsOn
  have key := lp0 (F := F) (s := (D, E)) (fun q (t : mx_D × mx_E) => (∀ c, c ≠ 136 → t.1 c = D c) ∧ (∀ p, p < nA (D 117) → t.1 136 p = nI (if p < q then gr (nA (D 117)) s (y + 1) p else gr (nA (D 117)) s y p)) ∧ FE E t.2 ∧ t.2 116 34 = lN (dS s (y * nA (D 117) + q))) (fun (r : mx_D × mx_E) => (∀ c, c ≠ 136 → r.1 c = D c) ∧ (∀ p, p < nA (D 117) → r.1 136 p = nI (gr (nA (D 117)) s (y + 1) p)) ∧ FE E r.2 ∧ r.2 116 34 = lN (dS s ((y + 1) * nA (D 117)))) (fun f q t => g_M_growsOn_2 F f (nI q) t.1 t.2) (n := nA (D 117)) (by omega) ⟨fun _ _ => rfl, fun p hp => by rw [if_neg (Nat.not_lt_zero p)]; exact hg1 p hp, FE_r E, hx⟩ (fun f q t hq hI => ?_) (fun f t hI => ?_)
  · obtain ⟨r, e1, e2, e3, e4, e5⟩ := key
    exact ⟨r.1, r.2, e1, e2, e3, e4, e5⟩
  · obtain ⟨i1, i2, i3, i4⟩ := hI
    have hlt := dS_lt hs (y * nA (D 117) + q)
    have ed : g_M_draw t.2 = (nI (dV (dS s (y * nA (D 117) + q + 1))), sE t.2 116 34 (lN (dS s (y * nA (D 117) + q + 1)))) := by
      unfold g_M_draw
      rw [sE_eq, i4, dN_s hlt, dV_s (dN_lt _)]
      rfl
    refine ⟨(sD t.1 136 q (nI (gr (nA (D 117)) s (y + 1) q)), sE t.2 116 34 (lN (dS s (y * nA (D 117) + q + 1)))), ⟨fun c hc => ?_, fun p hp => ?_, FE_t i3 (fun c q1 q2 => sE_nr _ _ _ q1), (by rw [← Nat.add_assoc]; dsimp only; rw [sE_eq])⟩, ?_⟩
    · show sD t.1 136 q _ c = _
      rw [sD_nr _ _ _ hc, i1 c hc]
    · show sD t.1 136 q _ 136 p = _
      by_cases c : p = q
      · subst c
        rw [sD_eq, if_pos (by omega)]
      · rw [sD_nj _ _ _ c, i2 p hp]
        by_cases c2 : p < q
        · rw [if_pos c2, if_pos (by omega)]
        · rw [if_neg c2, if_neg (by omega)]
    · have ew := i1 117 (by decide)
      show g_M_growsOn_2 F (f + 1) _ _ _ = _
      rw [s_M_growsOn_2]
      unfold b_M_growsOn_2
      rw [ew, wf_A hW, if_neg (nI_ge hq (by omega)), rk_in (by omega) (by decide), rk_in (by omega) (by decide), nI_clamp (by omega), ed, i2 q hq, if_neg (by omega), nI_add, nI_add, gr_s]
  · obtain ⟨i1, i2, i3, i4⟩ := hI
    refine ⟨t, ?_, i1, fun p hp => by rw [i2 p hp, if_pos hp], i3, by rw [i4, Nat.add_mul, Nat.one_mul]⟩
    have ew := i1 117 (by decide)
    show g_M_growsOn_2 F (f + 1) _ _ _ = _
    rw [s_M_growsOn_2]
    unfold b_M_growsOn_2
    rw [ew, wf_A hW, if_pos (nI_le (Nat.le_refl _) (by omega))]
theorem M_isLevelDrawn_s (hF : 100 ≤ F) (hW : WF (D 117)) {s y : Nat} (hy : y ≤ 30) (hg1 : ∀ p, p < nA (D 117) → D 136 p = nI (gr (nA (D 117)) s y p)) : ∃ D1, g_M_isLevelDrawn F D = some (b01 (lvd (D 117) s y), D1) ∧ (∀ c, c ≠ 123 → D1 c = D c) := by
  have h8 := wf_A8 hW
  have hv := wf_V30 hW
  obtain ⟨D1, h1, h2, h3⟩ := M_lay_s (F := F) hF hW 0
  have hr := hg_r hW s hy
  have hu := apa_b (pm := pM (D 117)) (b := ba (D 117)) h8 (sub_sM (D 117)) hr
  have hlt := iI_lt (a := (nV (D 117) : Int)) (b := apa (hg (D 117) s y) (pM (D 117)) (ba (D 117)) (sM (D 117))) (by omega) (by omega) (by omega) (by omega)
  unfold g_M_isLevelDrawn
  rw [h1, ob_some]
  have key := lp0 (F := F) (s := D1) (fun q (t : mx_D) => (∀ c, c ≠ 123 → t c = D c) ∧ ∀ p, p < nA (D 117) → t 123 p = iI (if p < q then hg (D 117) s y p else hi (D 117) 0 p)) (fun (r : Int32 × mx_D) => r.1 = b01 (lvd (D 117) s y) ∧ (∀ c, c ≠ 123 → r.2 c = D c)) (fun f q t => g_M_isLevelDrawn_7 F f (nI q) t) (n := nA (D 117)) (by omega) ⟨h2, fun p hp => by rw [if_neg (Nat.not_lt_zero p)]; exact h3 p hp⟩ (fun f q t hq hI => ?_) (fun f t hI => ?_)
  · obtain ⟨r, e1, e2, e3⟩ := key
    exact ⟨r.2, by rw [← e2]; exact e1, e3⟩
  · have ew := hI.1 117 (by decide)
    have e136 := hI.1 136 (by decide)
    refine ⟨sD t 123 q (iI (hg (D 117) s y q)), ⟨fun c hc => ?_, fun p hp => ?_⟩, ?_⟩
    · rw [sD_nr _ _ _ hc, hI.1 c hc]
    · by_cases c : p = q
      · subst c
        rw [sD_eq, if_pos (by omega)]
      · rw [sD_nj _ _ _ c, hI.2 p hp]
        by_cases c2 : p < q
        · rw [if_pos c2, if_pos (by omega)]
        · rw [if_neg c2, if_neg (by omega)]
    · show g_M_isLevelDrawn_7 F (f + 1) _ _ = _
      rw [s_M_isLevelDrawn_7]
      unfold b_M_isLevelDrawn_7
      rw [ew, wf_A hW, if_neg (nI_ge hq (by omega)), rk_in (by omega) (by decide), rk_in (by omega) (by decide), rk_in (by omega) (by decide), nI_clamp (by omega), hI.2 q hq, if_neg (by omega), e136, hg1 q hq, iI_nI (gr _ _ _ _), iI_add, nI_add]
      rfl
  · have ew := hI.1 117 (by decide)
    have hw : WF (t 117) := by rw [ew]; exact hW
    refine ⟨(b01 (lvd (D 117) s y), t), ?_, rfl, hI.1⟩
    show g_M_isLevelDrawn_7 F (f + 1) _ _ = _
    rw [s_M_isLevelDrawn_7]
    unfold b_M_isLevelDrawn_7
    unfold b_M_isLevelDrawn_38
    have hh : ∀ z, z < nA (t 117) → t 123 z = iI (hg (D 117) s y z) := fun z hz => by
      rw [ew] at hz
      rw [hI.2 z hz, if_pos hz]
    rw [wf_A hw, ew, if_pos (nI_le (Nat.le_refl _) (by omega)), M_sitters_s hF hw, ob_some, M_unlevel_s hF hw hh (by rw [ew]; exact hr) (sub_sM _), ob_some, ew, wf_V hW, iI_nI (nV (D 117))]
    unfold lvd
    by_cases hc : apa (hg (D 117) s y) (pM (D 117)) (ba (D 117)) (sM (D 117)) ≤ (nV (D 117) : Int)
    · rw [if_neg (fun q => by have := hlt.mp q; omega), decide_eq_true hc]
      rfl
    · rw [if_pos (hlt.mpr (by omega)), decide_eq_false hc]
      rfl
theorem m_firstDrawn (hF : 1000 ≤ F) (hW : WF (D 117)) {s : Nat} (hs : s < 2147483648) : ∃ D1 E1, g_M_firstDrawn F (lN s) D E = some (ff (fun y => !lvd (D 117) s y) 31 0, D1, E1) ∧ FM D D1 ∧ FE E E1 := by
  have h8 := wf_A8 hW
  obtain ⟨D0, E0, b1, b2, b3, b4, b5⟩ := M_begins_s (F := F) (by omega) s D E
  unfold g_M_firstDrawn
  rw [b1, ob_some]
  have key : ∀ (k f y : Nat) (t : mx_D) (u : mx_E), y + k = 31 → k < f → ((∀ c, c ≠ 123 → c ≠ 136 → t c = D c) ∧ (∀ p, p < nA (D 117) → t 136 p = nI (gr (nA (D 117)) s (y - 1) p)) ∧ FE E u ∧ u 116 34 = lN (dS s ((y - 1) * nA (D 117)))) → ∃ D1 E1, g_M_firstDrawn_7 F f (nI y) t u = some (ff (fun y => !lvd (D 117) s y) k y, D1, E1) ∧ FM D D1 ∧ FE E E1 := by
    intro k
    induction k with
    | zero =>
      intro f y t u hy hf hI
      obtain ⟨f, rfl⟩ : ∃ g, f = g + 1 := ⟨f - 1, by omega⟩
      obtain rfl : y = 31 := by omega
      rw [s_M_firstDrawn_7]
      unfold b_M_firstDrawn_7
      rw [if_pos (by decide)]
      exact ⟨_, _, rfl, FM_c hI.1, hI.2.2.1⟩
    | succ k ih =>
      intro f y t u hy hf hI
      obtain ⟨f, rfl⟩ : ∃ g, f = g + 1 := ⟨f - 1, by omega⟩
      obtain ⟨i1, i2, i3, i4⟩ := hI
      have ew := i1 117 (by decide) (by decide)
      have hw : WF (t 117) := by rw [ew]; exact hW
      have e : ff (fun y => !lvd (D 117) s y) (k + 1) y = if (!lvd (D 117) s y) = true then nI y else ff (fun y => !lvd (D 117) s y) k (y + 1) := rfl
      rw [s_M_firstDrawn_7]
      unfold b_M_firstDrawn_7
      rw [if_neg (nI_nlt (by omega) (by omega)), e, nI_add]
      by_cases y0 : y = 0
      · subst y0
        obtain ⟨D1, h1, h2⟩ := M_isLevelDrawn_s (F := F) (by omega) hw (s := s) (y := 0) (by omega) (by rw [ew]; exact i2)
        have f1 : ∀ c, c ≠ 123 → c ≠ 136 → D1 c = D c := fun c q1 q2 => (h2 c q1).trans (i1 c q1 q2)
        rw [if_pos (by decide), h1, ob_some, ew]
        simp only [b01_if]
        cases lvd (D 117) s 0
        · exact ⟨D1, u, rfl, FM_c f1, i3⟩
        · exact ih f 1 D1 u (by omega) (by omega) ⟨f1, fun p hp => by rw [h2 136 (by decide)]; exact i2 p hp, i3, i4⟩
      · obtain ⟨z, rfl⟩ : ∃ z, y = z + 1 := ⟨y - 1, by omega⟩
        rw [Nat.add_sub_cancel] at i2 i4
        obtain ⟨D2, E2, p1, p2, p3, p4, p5⟩ := M_growsOn_s (F := F) (by omega) hw hs z (by rw [ew]; exact i2) (by rw [ew]; exact i4)
        rw [ew] at p3 p5
        have e2 := (p2 117 (by decide)).trans ew
        obtain ⟨D3, h1, h2⟩ := M_isLevelDrawn_s (F := F) (D := D2) (by omega) (by rw [e2]; exact hW) (s := s) (y := z + 1) (by omega) (by rw [e2]; exact p3)
        have f1 : ∀ c, c ≠ 123 → c ≠ 136 → D3 c = D c := fun c q1 q2 => (h2 c q1).trans ((p2 c q2).trans (i1 c q1 q2))
        rw [if_neg (nI_nle (by omega) (by omega)), p1, ob_some, h1, ob_some, e2]
        simp only [b01_if]
        cases lvd (D 117) s (z + 1)
        · exact ⟨D3, E2, rfl, FM_c f1, FE_t i3 p4⟩
        · exact ih f (z + 2) D3 E2 (by omega) (by omega) ⟨f1, fun p hp => by rw [h2 136 (by decide)]; exact p3 p hp, FE_t i3 p4, p5⟩
  have q := key 31 F 0 D0 E0 (by omega) (by omega) ⟨fun c q1 q2 => b2 c q2, fun p hp => by rw [b3 p (by omega)]; rfl, b4, by rw [b5, Nat.zero_sub, Nat.zero_mul]; rfl⟩
  exact q
theorem m_drawn (hF : 1000 ≤ F) (hW : WF (D 117)) (a : Int32) : ∃ D1 E1, g_M_drawn F a D E = some (if vx a 2000000001 && decide (0 < nP (D 117)) then ff (fun y => !lvd (D 117) a.toNatClampNeg y) 31 0 else -2, D1, E1) ∧ FM D D1 ∧ FE E E1 := by
  unfold g_M_drawn
  rw [M_isChurch_s hW, M_isSeed_s]
  simp only [b01_if]
  rcases vx_c a 2000000001 (by decide) with h | ⟨s, hs, rfl⟩
  · rw [h, Bool.false_and]
    exact ⟨_, _, rfl, FM_r D, FE_r E⟩
  · rw [vx_nI (by omega), decide_eq_true hs, Bool.true_and]
    cases decide (0 < nP (D 117))
    · exact ⟨_, _, rfl, FM_r D, FE_r E⟩
    · obtain ⟨D1, E1, h1, h2, h3⟩ := m_firstDrawn (E := E) hF hW (s := s) (by omega)
      rw [if_pos rfl, if_pos rfl, if_pos rfl, nI_l (by omega), h1, ob_some, nI_clamp (by omega)]
      exact ⟨D1, E1, rfl, h2, h3⟩
theorem m_grown (hF : 1000 ≤ F) (hW : WF (D 117)) (a p y : Int32) : ∃ D1 E1, g_M_grown F a p y D E = some (if vx a 2000000001 && (vx p (nA (D 117)) && vx y 31) then iI (hg (D 117) a.toNatClampNeg y.toNatClampNeg p.toNatClampNeg) else -1000, D1, E1) ∧ FM D D1 ∧ FE E E1 := by
  have h8 := wf_A8 hW
  unfold g_M_grown
  rw [M_isPerson_s hW, M_isSeed_s, M_isYear_s hW]
  simp only [b01_if]
  rcases vx_c a 2000000001 (by decide) with h | ⟨s, hs, rfl⟩
  · rw [h, Bool.false_and]
    exact ⟨_, _, rfl, FM_r D, FE_r E⟩
  · rw [vx_nI (by omega), decide_eq_true hs, Bool.true_and, if_pos rfl]
    rcases vx_c p (nA (D 117)) (by omega) with h | ⟨x, hx, rfl⟩
    · rw [h, Bool.false_and]
      exact ⟨_, _, rfl, FM_r D, FE_r E⟩
    · have hp := wf_AP hW (by omega)
      rw [vx_nI (by omega), decide_eq_true hx, Bool.true_and, if_pos rfl, decide_eq_true hp, Bool.true_and]
      rcases vx_c y 31 (by decide) with h | ⟨k, hk, rfl⟩
      · rw [h]
        exact ⟨_, _, rfl, FM_r D, FE_r E⟩
      · obtain ⟨D0, E0, b1, b2, b3, b4, b5⟩ := M_begins_s (F := F) (by omega) s D E
        rw [vx_nI (by omega), decide_eq_true hk, if_pos rfl, if_pos rfl, nI_l (by omega), b1, ob_some, nI_clamp (by omega), nI_clamp (by omega), nI_clamp (by omega)]
        have key := lp0 (F := F) (s := (D0, E0)) (fun j (t : mx_D × mx_E) => (∀ c, c ≠ 136 → t.1 c = D c) ∧ (∀ p, p < nA (D 117) → t.1 136 p = nI (gr (nA (D 117)) s j p)) ∧ FE E t.2 ∧ t.2 116 34 = lN (dS s (j * nA (D 117)))) (fun (r : Int32 × mx_D × mx_E) => r.1 = iI (hg (D 117) s k x) ∧ FM D r.2.1 ∧ FE E r.2.2) (fun f j t => g_M_grown_36 F f (nI x) (nI k) (nI (j + 1)) t.1 t.2) (n := k) (by omega) ⟨b2, fun p hp => by show D0 136 p = _; rw [b3 p (by omega)]; rfl, b4, by show E0 116 34 = _; rw [b5, Nat.zero_mul]; rfl⟩ (fun f j t hj hI => ?_) (fun f t hI => ?_)
        · obtain ⟨r, e1, e2, e3, e4⟩ := key
          exact ⟨r.2.1, r.2.2, by rw [← e2]; exact e1, e3, e4⟩
        · obtain ⟨i1, i2, i3, i4⟩ := hI
          have ew := i1 117 (by decide)
          obtain ⟨D2, E2, p1, p2, p3, p4, p5⟩ := M_growsOn_s (F := F) (D := t.1) (E := t.2) (by omega) (by rw [ew]; exact hW) (s := s) (by omega) j (by rw [ew]; exact i2) (by rw [ew]; exact i4)
          rw [ew] at p3 p5
          refine ⟨(D2, E2), ⟨fun c hc => (p2 c hc).trans (i1 c hc), p3, FE_t i3 p4, p5⟩, ?_⟩
          show g_M_grown_36 F (f + 1) _ _ _ _ _ = _
          rw [s_M_grown_36]
          unfold b_M_grown_36
          rw [if_neg (nI_nlt (by omega) (by omega)), p1, ob_some, nI_add]
        · obtain ⟨i1, i2, i3, i4⟩ := hI
          have ew := i1 117 (by decide)
          refine ⟨(iI (hg (D 117) s k x), t.1, t.2), ?_, rfl, FM_c (fun c q1 q2 => i1 c q2), i3⟩
          show g_M_grown_36 F (f + 1) _ _ _ _ _ = _
          rw [s_M_grown_36]
          unfold b_M_grown_36
          unfold b_M_grown_52
          rw [if_pos (nI_lt (by omega) (by omega)), M_highOf_s (by omega) (by rw [ew]; exact hW) (by rw [ew]; exact hx), ob_some, rk_in (by omega) (by decide), nI_clamp (by omega), i2 x hx, ew, iI_nI (gr _ _ _ _), iI_add]
          rfl
end DR
