/-! ===== pair of the class; seat ===== -/
section SE
variable {D : mx_D} {E : mx_E} {w w' : W_} {F : Nat}
theorem X_spIf_s (hF : 1000 ≤ F) (hC : CC D w) (hW : WF w) {a b y : Nat} (ha : a < nA w) (hb : b < nA w) (hab : a ≠ b) (sa : st w a = true) (sb : st w b = true) (hy : y ≤ 30) (hT : HT D (nA w) (hi w y) (pM w) (sM w) (ba w)) : ∃ D', g_X_spreadIfChanged F (nI a) (nI b) D = some (iI (spr (prh w y a b) (sM w)), D') ∧ (∀ c, c ≠ 35 → D' c = D c) ∧ HT D' (nA w) (hi w y) (pM w) (sM w) (ba w) := by
  have h8 := wf_A8 hW
  generalize hs : flo w (pw w b) (pc w b) - flo w (pw w a) (pc w a) = s
  have ea : prh w y a b a = hi w y a + s := by unfold prh; rw [if_pos rfl, hs]
  have eb : prh w y a b b = hi w y b - s := by unfold prh; rw [if_neg (fun z => hab z.symm), if_pos rfl, hs]
  have eo : ∀ z, z ≠ a → z ≠ b → prh w y a b z = hi w y z := fun z h1 h2 => by unfold prh; rw [if_neg h1, if_neg h2]
  unfold g_X_spreadIfChanged
  rw [C_floorUnder_s hC hW hb, ob_some, C_floorUnder_s hC hW ha, ob_some, sa, sb, if_pos rfl, if_pos rfl, iI_sub, hs]
  simp (disch := omega) only [rk_in, nI_clamp, sD_eq, sD_nj, sD_ne]
  rw [hT.1 a ha, hT.1 b hb, hT.2.2.1, iI_add, iI_sub]
  have hh : ∀ z, z < nA w → sD (sD D 35 a (iI (hi w y a + s))) 35 b (iI (hi w y b - s)) 35 z = iI (prh w y a b z) := fun z hz => by
    by_cases c2 : z = b
    · rw [c2, sD_eq, eb]
    · rw [sD_nj _ _ _ c2]
      by_cases c1 : z = a
      · rw [c1, sD_eq, ea]
      · rw [sD_nj _ _ _ c1, hT.1 z hz, eo z c1 c2]
  rw [H_spread_s (by omega) h8 hh (prh_r hW ha hb sa sb hy) (sub_sM w), ob_some]
  refine ⟨_, rfl, fun c hc => ?_, fun z hz => ?_, fun p hp => ?_, ?_, ?_⟩
  · rw [sD_nr _ _ _ hc, sD_nr _ _ _ hc, sD_nr _ _ _ hc, sD_nr _ _ _ hc]
  · by_cases c2 : z = b
    · rw [c2, sD_eq, iI_add]
      congr 1
      omega
    · rw [sD_nj _ _ _ c2]
      by_cases c1 : z = a
      · rw [c1, sD_eq, iI_sub]
        congr 1
        omega
      · rw [sD_nj _ _ _ c1, sD_nj _ _ _ c2, sD_nj _ _ _ c1, hT.1 z hz]
  · rw [sD_ne _ _ _ _ (by decide), sD_ne _ _ _ _ (by decide), sD_ne _ _ _ _ (by decide), sD_ne _ _ _ _ (by decide), hT.2.1 p hp]
  · rw [sD_ne _ _ _ _ (by decide), sD_ne _ _ _ _ (by decide), sD_ne _ _ _ _ (by decide), sD_ne _ _ _ _ (by decide), hT.2.2.1]
  · rw [sD_ne _ _ _ _ (by decide), sD_ne _ _ _ _ (by decide), sD_ne _ _ _ _ (by decide), sD_ne _ _ _ _ (by decide), hT.2.2.2]
theorem x_pair (hF : 1000 ≤ F) (hC : CC D w) (hW : WF w) (a : Int32) : ∃ D1, g_X_pair F a D = some (if decide (0 < nP w) && vx a 31 then (prf w a.toNatClampNeg (nA w)).2 else -2, D1) ∧ FX D D1 := by
  have h8 := wf_A8 hW
  have sm := sM_256 hW
  unfold g_X_pair
  rw [X_canAsk_s hC hW]
  simp only [b01_if]
  rcases vx_c a 31 (by decide) with h | ⟨y, hy, rfl⟩
  · rw [h, Bool.and_false]
    exact ⟨_, rfl, FX_r D⟩
  · rw [vx_nI (by omega), decide_eq_true hy, Bool.and_true]
    cases decide (0 < nP w)
    · exact ⟨_, rfl, FX_r D⟩
    · obtain ⟨D1, h1, h2, h3⟩ := H_take_s (F := F) (by omega) hC hW y
      rw [if_pos rfl, if_pos rfl, h1, ob_some, h3.2.2.1, H_spread_s (by omega) h8 h3.1 (hi_r hW (by omega)) (sub_sM w), ob_some, nI_clamp (by omega)]
      have key := lp0 (F := F) (s := D1) (fun n (s : mx_D) => FX D s ∧ HT s (nA w) (hi w y) (pM w) (sM w) (ba w)) (fun (r : Int32 × mx_D) => r.1 = (prf w y (nA w)).2 ∧ FX D r.2) (fun f n s => g_X_pair_43 F f (iI (prf w y n).1) (prf w y n).2 (nI n) s) (n := nA w) (by omega) ⟨FX_h h2, h3⟩ (fun f n s hn hI => ?_) (fun f s hI => ?_)
      · obtain ⟨r, e1, e2, e3⟩ := key
        exact ⟨r.2, by rw [← e2]; exact e1, e3⟩
      · have eo : prf w y (n + 1) = pri w y n (prf w y n) (nA w - (n + 1)) := rfl
        have pb := prf_b hW (y := y) (by omega) n (by omega)
        have hcs : CC s w := CC_of hC (fun c hc => hI.1 c (by omega))
        have inner : ∀ (k g j : Nat) (u : mx_D), n + 1 + j + k = nA w → k < g → (FX D u ∧ HT u (nA w) (hi w y) (pM w) (sM w) (ba w)) → ∃ u', (FX D u' ∧ HT u' (nA w) (hi w y) (pM w) (sM w) (ba w)) ∧ g_X_pair_64 F (g_X_pair_43 F f) g (iI (pri w y n (prf w y n) j).1) (pri w y n (prf w y n) j).2 (nI n) (nI (n + 1 + j)) u = g_X_pair_43 F f (iI (pri w y n (prf w y n) (j + k)).1) (pri w y n (prf w y n) (j + k)).2 (nI (n + 1)) u' := by
          intro k
          induction k with
          | zero =>
            intro g j u hj hg hu
            obtain ⟨g, rfl⟩ : ∃ z, g = z + 1 := ⟨g - 1, by omega⟩
            have hcu : CC u w := CC_of hC (fun c hc => hu.1 c (by omega))
            refine ⟨u, hu, ?_⟩
            rw [s_X_pair_64]
            unfold b_X_pair_64
            rw [c_24 hcu, wf_A hW, if_pos (nI_le (by omega) (by omega)), nI_add]
            rfl
          | succ k ih =>
            intro g j u hj hg hu
            obtain ⟨g, rfl⟩ : ∃ z, g = z + 1 := ⟨g - 1, by omega⟩
            have hcu : CC u w := CC_of hC (fun c hc => hu.1 c (by omega))
            have hbn : n + 1 + j < nA w := by omega
            have hab : n ≠ n + 1 + j := by omega
            have ee : pri w y n (prf w y n) (j + 1) = prs w y n (n + 1 + j) (pri w y n (prf w y n) j) := rfl
            have bj := pri_b hW hn (y := y) (by omega) pb j (by omega)
            rw [s_X_pair_64]
            unfold b_X_pair_64
            rw [c_24 hcu, wf_A hW, if_neg (nI_ge hbn (by omega)), isIn_s hu.2 (by omega) (by omega), isIn_s hu.2 (by omega) (by omega), sM_tb w hn, sM_tb w hbn, nI_add, b01_if, b01_if]
            have goon : ∀ (u2 : mx_D), (FX D u2 ∧ HT u2 (nA w) (hi w y) (pM w) (sM w) (ba w)) → ∃ u', (FX D u' ∧ HT u' (nA w) (hi w y) (pM w) (sM w) (ba w)) ∧ g_X_pair_64 F (g_X_pair_43 F f) g (iI (pri w y n (prf w y n) (j + 1)).1) (pri w y n (prf w y n) (j + 1)).2 (nI n) (nI (n + 1 + j + 1)) u2 = g_X_pair_43 F f (iI (pri w y n (prf w y n) (j + (k + 1))).1) (pri w y n (prf w y n) (j + (k + 1))).2 (nI (n + 1)) u' := fun u2 h2 => by
              have := ih g (j + 1) u2 (by omega) (by omega) h2
              rw [show j + 1 + k = j + (k + 1) by omega, show n + 1 + (j + 1) = n + 1 + j + 1 by omega] at this
              exact this
            cases hs1 : st w n
            · rw [if_neg (by decide)]
              obtain ⟨u', q1, q2⟩ := goon u hu
              refine ⟨u', q1, ?_⟩
              rw [← q2, ee]
              unfold prs
              rw [if_neg (by rw [hs1]; simp)]
            · rw [if_pos rfl]
              cases hs2 : st w (n + 1 + j)
              · rw [if_neg (by decide)]
                obtain ⟨u', q1, q2⟩ := goon u hu
                refine ⟨u', q1, ?_⟩
                rw [← q2, ee]
                unfold prs
                rw [if_neg (by rw [hs2]; simp)]
              · obtain ⟨u2, x1, x2, x3⟩ := X_spIf_s hF hcu hW hn hbn hab hs1 hs2 (y := y) (by omega) hu.2
                have hu2 := spr_u (hs := prh w y n (n + 1 + j)) sm (fun x hx => prh_r hW hn hbn hs1 hs2 (by omega) x (sub_sM _ x hx))
                rw [if_pos rfl, x1, ob_some, pk_mul, nI_add]
                obtain ⟨u', q1, q2⟩ := goon u2 ⟨FX_t hu.1 (fun c hc => x2 c (by omega)), x3⟩
                refine ⟨u', q1, ?_⟩
                rw [← q2, ee]
                unfold prs
                have hle := iI_le (a := (pri w y n (prf w y n) j).1) (b := spr (prh w y n (n + 1 + j)) (sM w)) (by omega) (by omega) (by omega) (by omega)
                rw [if_pos (show st w n = true ∧ st w (n + 1 + j) = true from ⟨hs1, hs2⟩)]
                by_cases c : spr (prh w y n (n + 1 + j)) (sM w) < (pri w y n (prf w y n) j).1
                · rw [if_neg (fun z => by have := hle.mp z; omega), if_pos c]
                · rw [if_pos (hle.mpr (by omega)), if_neg c]
        obtain ⟨u', q1, q2⟩ := inner (nA w - (n + 1)) F 0 s (by omega) (by omega) hI
        refine ⟨u', q1, ?_⟩
        show g_X_pair_43 F (f + 1) _ _ _ _ = _
        rw [s_X_pair_43]
        unfold b_X_pair_43
        rw [c_24 hcs, wf_A hW, if_neg (nI_ge hn (by omega)), nI_add, eo]
        rw [Nat.zero_add] at q2
        exact q2
      · have hcs : CC s w := CC_of hC (fun c hc => hI.1 c (by omega))
        refine ⟨((prf w y (nA w)).2, s), ?_, rfl, hI.1⟩
        show g_X_pair_43 F (f + 1) _ _ _ _ = _
        rw [s_X_pair_43]
        unfold b_X_pair_43
        rw [c_24 hcs, wf_A hW, if_pos (nI_le (Nat.le_refl _) (by omega))]
/-! seat -/
theorem H_drop_s (hF : 100 ≤ F) {x : Nat} (hx : x < 8) {n : Nat} {hs : Nat → Int} {pm : Nat → Nat} {sm : Nat} {b : Bool} (hT : HT D n hs pm sm b) : ∃ D', g_Heights_drop F (nI x) D = some D' ∧ (∀ c, c ≠ 34 → c ≠ 36 → D' c = D c) ∧ HT D' n hs (fun p => nand (pm p) (2 ^ x)) (nand sm (2 ^ x)) b := by
  unfold g_Heights_drop
  rw [nb_shl x (by omega)]
  have key := lp0 (F := F) (s := D) (fun p (s : mx_D) => (∀ c, c ≠ 36 → s c = D c) ∧ (∀ q, q < 4 → s 36 q = nI (if q < p then nand (pm q) (2 ^ x) else pm q))) (fun D' => (∀ c, c ≠ 34 → c ≠ 36 → D' c = D c) ∧ HT D' n hs (fun p => nand (pm p) (2 ^ x)) (nand sm (2 ^ x)) b) (fun f p s => g_Heights_drop_8 F f (nI (2 ^ x) ^^^ (-1 : Int32)) (nI p) s) (n := 4) (by omega) ⟨fun _ _ => rfl, fun q hq => by rw [if_neg (Nat.not_lt_zero q), hT.2.1 q hq]⟩ (fun f p s hp hI => ?_) (fun f s hI => ?_)
  · exact key
  · refine ⟨sD s 36 p (nI (nand (pm p) (2 ^ x))), ⟨fun c hc => ?_, fun q hq => ?_⟩, ?_⟩
    · rw [sD_nr _ _ _ hc, hI.1 c hc]
    · by_cases c : q = p
      · rw [c, sD_eq, if_pos (by omega)]
      · rw [sD_nj _ _ _ c, hI.2 q hq]
        by_cases c2 : q < p
        · rw [if_pos c2, if_pos (by omega)]
        · rw [if_neg c2, if_neg (by omega)]
    · show g_Heights_drop_8 F (f + 1) _ _ _ = _
      rw [s_Heights_drop_8]
      unfold b_Heights_drop_8
      rw [if_neg (nI_ge hp (by decide)), rk_in hp (by decide), rk_in hp (by decide), nI_clamp (by omega), hI.2 p hp, if_neg (by omega), nb_not, nI_add]
  · refine ⟨sD s 34 2 (nI (nand sm (2 ^ x))), ?_, fun c q1 q2 => ?_, fun z hz => ?_, fun p hp => ?_, ?_, ?_⟩
    · show g_Heights_drop_8 F (f + 1) _ _ _ = _
      rw [s_Heights_drop_8]
      unfold b_Heights_drop_8
      rw [if_pos (by decide), hI.1 34 (by decide), hT.2.2.1, nb_not]
    · rw [sD_nr _ _ _ q1, hI.1 c q2]
    · rw [sD_ne _ _ _ _ (by decide), hI.1 35 (by decide), hT.1 z hz]
    · rw [sD_ne _ _ _ _ (by decide), hI.2 p hp, if_pos hp]
    · rw [sD_eq]
    · rw [sD_nj _ _ _ (by decide), hI.1 34 (by decide), hT.2.2.2]
end SE
