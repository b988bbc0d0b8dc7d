/-! ===== hats, handed ===== -/
section HS
variable {F : Nat} {D : mx_D} {E : mx_E} {w : W_}
theorem fill_53 (hF : 100 ≤ F) (v : Int32) (D : mx_D) : ∃ D', g_Arrays_fill_53 F v D = some D' ∧ (∀ c, c ≠ 53 → D' c = D c) ∧ ∀ j, j < 8 → D' 53 j = v := by
  unfold g_Arrays_fill_53
  refine lp0 (F := F) (fun a (s : mx_D) => (∀ c, c ≠ 53 → s c = D c) ∧ ∀ j, j < a → s 53 j = v) (fun D' => (∀ c, c ≠ 53 → D' c = D c) ∧ ∀ j, j < 8 → D' 53 j = v) (fun f a s => g_Arrays_fill_53_5 F f v (nI a) (nI 8) s) (n := 8) (by omega) ⟨fun _ _ => rfl, fun x hx => absurd hx (Nat.not_lt_zero x)⟩ (fun f a s ha hI => ?_) (fun f s hI => ?_)
  · refine ⟨sD s 53 a v, ⟨fun c hc => ?_, fun j hj => ?_⟩, ?_⟩
    · rw [sD_nr _ _ _ hc, hI.1 c hc]
    · by_cases q : j = a
      · subst q
        rw [sD_eq]
      · rw [sD_nj _ _ _ q, hI.2 j (by omega)]
    · rw [s_Arrays_fill_53_5]
      unfold b_Arrays_fill_53_5
      rw [if_neg (nI_ge ha (by decide)), rk_in ha (by decide), nI_clamp (by omega), nI_add]
  · refine ⟨s, ?_, hI⟩
    rw [s_Arrays_fill_53_5]
    unfold b_Arrays_fill_53_5
    rw [if_pos (nI_le (Nat.le_refl _) (by decide))]
theorem fill_55 (hF : 100 ≤ F) (v : Int32) (D : mx_D) : ∃ D', g_Arrays_fill_55 F v D = some D' ∧ (∀ c, c ≠ 55 → D' c = D c) ∧ ∀ j, j < 4 → D' 55 j = v := by
  unfold g_Arrays_fill_55
  refine lp0 (F := F) (fun a (s : mx_D) => (∀ c, c ≠ 55 → s c = D c) ∧ ∀ j, j < a → s 55 j = v) (fun D' => (∀ c, c ≠ 55 → D' c = D c) ∧ ∀ j, j < 4 → D' 55 j = v) (fun f a s => g_Arrays_fill_55_5 F f v (nI a) (nI 4) s) (n := 4) (by omega) ⟨fun _ _ => rfl, fun x hx => absurd hx (Nat.not_lt_zero x)⟩ (fun f a s ha hI => ?_) (fun f s hI => ?_)
  · refine ⟨sD s 55 a v, ⟨fun c hc => ?_, fun j hj => ?_⟩, ?_⟩
    · rw [sD_nr _ _ _ hc, hI.1 c hc]
    · by_cases q : j = a
      · subst q
        rw [sD_eq]
      · rw [sD_nj _ _ _ q, hI.2 j (by omega)]
    · rw [s_Arrays_fill_55_5]
      unfold b_Arrays_fill_55_5
      rw [if_neg (nI_ge ha (by decide)), rk_in ha (by decide), nI_clamp (by omega), nI_add]
  · refine ⟨s, ?_, hI⟩
    rw [s_Arrays_fill_55_5]
    unfold b_Arrays_fill_55_5
    rw [if_pos (nI_le (Nat.le_refl _) (by decide))]
theorem fill_56 (hF : 100 ≤ F) (v : Int32) (D : mx_D) : ∃ D', g_Arrays_fill_56 F v D = some D' ∧ (∀ c, c ≠ 56 → D' c = D c) ∧ ∀ j, j < 4 → D' 56 j = v := by
  unfold g_Arrays_fill_56
  refine lp0 (F := F) (fun a (s : mx_D) => (∀ c, c ≠ 56 → s c = D c) ∧ ∀ j, j < a → s 56 j = v) (fun D' => (∀ c, c ≠ 56 → D' c = D c) ∧ ∀ j, j < 4 → D' 56 j = v) (fun f a s => g_Arrays_fill_56_5 F f v (nI a) (nI 4) s) (n := 4) (by omega) ⟨fun _ _ => rfl, fun x hx => absurd hx (Nat.not_lt_zero x)⟩ (fun f a s ha hI => ?_) (fun f s hI => ?_)
  · refine ⟨sD s 56 a v, ⟨fun c hc => ?_, fun j hj => ?_⟩, ?_⟩
    · rw [sD_nr _ _ _ hc, hI.1 c hc]
    · by_cases q : j = a
      · subst q
        rw [sD_eq]
      · rw [sD_nj _ _ _ q, hI.2 j (by omega)]
    · rw [s_Arrays_fill_56_5]
      unfold b_Arrays_fill_56_5
      rw [if_neg (nI_ge ha (by decide)), rk_in ha (by decide), nI_clamp (by omega), nI_add]
  · refine ⟨s, ?_, hI⟩
    rw [s_Arrays_fill_56_5]
    unfold b_Arrays_fill_56_5
    rw [if_pos (nI_le (Nat.le_refl _) (by decide))]
theorem bc_full : ∀ n : Fin 9, bc (2 ^ n.val - 1) = n.val := by decide +kernel
theorem ns_sg (w : W_) : ∀ k, k ≤ nA w → (ns w k : Int) = sg (nA w) (fun x => if st w x = true then 1 else 0) - sg (nA w - k) (fun x => if st w x = true then 1 else 0)
  | 0, _ => by
    rw [Nat.sub_zero]
    show ((0 : Nat) : Int) = _
    omega
  | k + 1, hk => by
    have ih := ns_sg w k (by omega)
    have e : ns w (k + 1) = ns w k + if st w (nA w - (k + 1)) = true then 1 else 0 := rfl
    have e2 : nA w - k = nA w - (k + 1) + 1 := by omega
    rw [e2, sg_s] at ih
    rw [e, Int.natCast_add, ih]
    by_cases c : st w (nA w - (k + 1)) = true
    · rw [if_pos c, if_pos c]
      omega
    · rw [if_neg c, if_neg c]
      omega
theorem ns_bc (hW : WF w) : ns w (nA w) = bc (sM w) := by
  have h8 := wf_A8 hW
  have h1 := ns_sg w (nA w) (Nat.le_refl _)
  have h2 := bc_sg (sM w)
  have h3 : sg 8 (fun x => if (sM w).testBit x = true then (1 : Int) else 0) = sg (nA w) (fun x => if (sM w).testBit x = true then 1 else 0) := sg_up h8 (fun i h _ => if_neg (fun z => by
    have := (sMb.mp z).1
    omega))
  have h4 : sg (nA w) (fun x => if (sM w).testBit x = true then (1 : Int) else 0) = sg (nA w) (fun x => if st w x = true then 1 else 0) := sg_c _ (fun i hi => by
    have e : (sM w).testBit i = true ↔ st w i = true := ⟨fun z => (sMb.mp z).2, fun z => sMb.mpr ⟨hi, z⟩⟩
    by_cases c : st w i = true
    · rw [if_pos c, if_pos (e.mpr c)]
    · rw [if_neg c, if_neg (fun z => c (e.mp z))])
  rw [Nat.sub_self] at h1
  have h5 : sg 0 (fun x => if st w x = true then (1 : Int) else 0) = 0 := rfl
  omega
theorem X_find_s (hF : 1000 ≤ F) (hC : CC D w) (hW : WF w) {y : Nat} (hy : y ≤ 30) (all : Bool) : ∃ D', g_HatSearch_find F (nI y) (b01 all) D = some D' ∧ (∀ c, c < 51 ∨ 56 < c → D' c = D c) ∧ D' 51 1 = nI (acc all [] (HL w y)).length ∧ ∀ a B, acc all [] (HL w y) = a :: B → ∀ x, x < nA w → st w x = true → D' 52 x = a x := by
  have h8 := wf_A8 hW
  have h9 := wf_H8 hW
  have hV := wf_V30 hW
  unfold g_HatSearch_find
  rw [zk_b]
  have o1 : ∀ c, c ≠ 51 → sD (sD D 51 1 (nI 0)) 51 7 (b01 all) c = D c := fun c hc => by rw [sD_nr _ _ _ hc, sD_nr _ _ _ hc]
  have o2 : sD (sD D 51 1 (nI 0)) 51 7 (b01 all) 51 7 = b01 all := sD_eq _ _ _ _
  have o3 : sD (sD D 51 1 (nI 0)) 51 7 (b01 all) 51 1 = nI 0 := by rw [sD_nj _ _ _ (by decide), sD_eq]
  generalize sD (sD D 51 1 (nI 0)) 51 7 (b01 all) = O at o1 o2 o3 ⊢
  obtain ⟨A, ⟨a1, a2⟩, e1⟩ := lpk0 (σ := mx_D) (fun a s => (∀ c, c ≠ 54 → s c = O c) ∧ ∀ x, x < a → s 54 x = iI (bs w y x)) (fun f a s => g_HatSearch_find_12 F f (nI y) (nI a) s) (fun s => b_HatSearch_find_56 F s) (F := F) (n := nA w) (s := O) (by omega) ⟨fun _ _ => rfl, fun x hx => absurd hx (Nat.not_lt_zero x)⟩ (fun f a s ha hI => by
    obtain ⟨i1, i2⟩ := hI
    have cS : CC s w := CC_of hC (fun c hc => by rw [i1 c (by omega), o1 c (by omega)])
    show ∃ s', _ ∧ g_HatSearch_find_12 F (f + 1) (nI y) (nI a) s = g_HatSearch_find_12 F f (nI y) (nI (a + 1)) s'
    rw [s_HatSearch_find_12]
    unfold b_HatSearch_find_12
    rw [c_24 cS, wf_A hW, if_neg (nI_ge ha (by omega)), C_highOf_s (by omega) cS hW ha, ob_some, C_hatHigh_s cS hW ha, ob_some, rk_in (show a < 8 by omega) (by decide), nI_clamp (by omega), iI_sub, nI_add]
    refine ⟨_, ⟨fun c hc => by rw [sD_nr _ _ _ hc, i1 c hc], fun x hx => ?_⟩, rfl⟩
    by_cases e : x = a
    · subst e
      rw [sD_eq]
      rfl
    · rw [sD_nj _ _ _ e]
      exact i2 x (by omega)) (fun f s hI => by
    show g_HatSearch_find_12 F (f + 1) (nI y) (nI (nA w)) s = _
    have cS : CC s w := CC_of hC (fun c hc => by rw [hI.1 c (by omega), o1 c (by omega)])
    rw [s_HatSearch_find_12]
    unfold b_HatSearch_find_12
    rw [c_24 cS, wf_A hW, if_pos (nI_le (Nat.le_refl _) (by omega))])
  have e1' : g_HatSearch_find_12 F F (nI y) (nI 0) O = b_HatSearch_find_56 F A := e1
  rw [e1']
  unfold b_HatSearch_find_56
  obtain ⟨B, b1, b2, b3⟩ := fill_53 (F := F) (by omega) (-1) A
  rw [b1, ob_some]
  obtain ⟨C, c1, c2, c3⟩ := fill_55 (F := F) (by omega) (nI 10000) B
  rw [c1, ob_some]
  obtain ⟨G, g1, g2, g3⟩ := fill_56 (F := F) (by omega) (-10000) C
  rw [g1, ob_some]
  have hG : ∀ c, c ≠ 53 → c ≠ 55 → c ≠ 56 → G c = A c := fun c q1 q2 q3 => by rw [g2 c q3, c2 c q2, b2 c q1]
  have hGD : ∀ c, c < 51 ∨ 56 < c → G c = D c := fun c hc => by rw [hG c (by omega) (by omega) (by omega), a1 c (by omega), o1 c (by omega)]
  have cG : CC G w := CC_of hC (fun c hc => hGD c (by omega))
  have s8 := sub_256 (sub_sM w) h8
  have b8 := bc_8 (sM w) s8
  rw [C_sitters_s (by omega) cG hW, ob_some, c_10 cG, wf_H hW, bitC _ s8]
  have G1 : G 51 1 = nI 0 := by rw [hG 51 (by decide) (by decide) (by decide), a1 51 (by decide), o3]
  by_cases few : nH w < bc (sM w)
  · rw [if_pos (by rw [Int32.lt_iff_toInt_lt, nI_toInt (by omega), nI_toInt (by omega)]; omega)]
    have hf := bc_full ⟨nH w, by omega⟩
    dsimp only at hf
    have eL : HL w y = [] := sols_few hW y (nA w) (2 ^ nH w - 1) _ (Nat.le_refl _) (by have := pow8 h9; have := Nat.pow_pos (n := nH w) (show 0 < 2 by decide); omega) (by rw [ns_bc hW]; omega)
    have ea : acc all [] (HL w y) = [] := by
      rw [eL]
      unfold acc
      cases all <;> rfl
    rw [ea]
    exact ⟨G, rfl, hGD, G1, fun a B e => absurd e (by simp)⟩
  · have p8 := pow8 h9
    have pp := Nat.pow_pos (n := nH w) (show 0 < 2 by decide)
    rw [if_neg (fun z => by rw [Int32.lt_iff_toInt_lt, nI_toInt (by omega), nI_toInt (by omega)] at z; omega), nb_shl _ (by omega), nI_subN (by omega)]
    obtain ⟨Z, z1, z2, z3, -, -⟩ := H_hand_s (F := F) hF hW hy all (nA w) 20 (2 ^ nH w - 1) (ua w (nA w)) [] G (fun _ => 10000) (fun _ => -10000) (by omega) (Nat.le_refl _) cG ⟨fun x hx => by rw [hG 54 (by decide) (by decide) (by decide), a2 x hx], by rw [hG 51 (by decide) (by decide) (by decide), a1 51 (by decide), o2], G1, fun a B e => absurd e (by simp)⟩ (fun g hg => ⟨by rw [g2 55 (by decide), c3 g hg, iI_nI]; rfl, by rw [g3 g hg]; rfl⟩) (fun g hg => ⟨show (-10000 : Int) - 10000 ≤ nV w by omega, fun x hx => absurd hx (by omega), Or.inl ⟨rfl, rfl⟩⟩) (UOK_ua w) (fun x hx => absurd hx (by omega)) (by omega) (Or.inr rfl) (by have := HL_len hW y; unfold HL at this; simpa using this)
    rw [Nat.sub_self] at z1
    rw [z1, ob_some]
    refine ⟨Z, rfl, fun c hc => ?_, z3.2.2.1, z3.2.2.2⟩
    rw [z2 c (by omega) (by omega) (by omega) (by omega) (by omega), hGD c hc]
theorem FM_hand {D D' : mx_D} (h1 : ∀ c, c ≠ 116 → c ≠ 123 → c ≠ 131 → c ≠ 132 → D' c = D c) (h2 : ∀ i, i ≠ 30 → D' 116 i = D 116 i) : FM D D' :=
  ⟨fun c hc => h1 c (by omega) (by omega) (by omega) (by omega), ⟨h1 _ (by decide) (by decide) (by decide) (by decide), h1 _ (by decide) (by decide) (by decide) (by decide), h1 _ (by decide) (by decide) (by decide) (by decide), h1 _ (by decide) (by decide) (by decide) (by decide), h1 _ (by decide) (by decide) (by decide) (by decide), h1 _ (by decide) (by decide) (by decide) (by decide)⟩, h2 _ (by decide), h2 _ (by decide), h2 _ (by decide)⟩
theorem op_hats (hF : 10000000000 ≤ F) (h : RL D E) (a : Int32) : ∃ r D1 D2, g_X_hats F a D = some (r, D1) ∧ g_M_hats F a D1 = some (r, D2) ∧ RL D2 E := by
  have hW := h.1
  have hC := h.2.2.1
  unfold g_X_hats
  rw [X_canAsk_s hC hW, b01_if]
  rcases yr_c (D 117) a with q | ⟨y, hy, rfl, hP, q⟩
  · rw [q, if_neg (by decide)]
    refine ⟨_, D, D, rfl, ?_, h⟩
    unfold g_M_hats
    rw [M_isYear_s hW, b01_if, q, if_neg (by decide)]
  · rw [q, if_pos rfl]
    obtain ⟨A, a1, a2, a3, -⟩ := X_find_s (F := F) (by omega) hC hW hy true
    have hFX : FX D A := fun c hc => a2 c (by omega)
    have e117 := hFX 117 (by omega)
    obtain ⟨M, m1, m2, m3, m4, -⟩ := M_handAll_s (D := A) hF (by rw [e117]; exact hW) hy
    have a1' : g_HatSearch_find F (nI y) (nI 1) D = some A := a1
    rw [a1', ob_some, a3]
    refine ⟨_, A, M, rfl, ?_, RL_q h (FR_XM hFX (FM_hand m2 m3)) (fun _ _ _ => rfl)⟩
    unfold g_M_hats
    rw [M_isYear_s (by rw [e117]; exact hW), b01_if, e117, q, if_pos rfl, m1, ob_some, m4, e117]
    rfl
theorem op_handed (hF : 10000000000 ≤ F) (h : RL D E) (a b : Int32) : ∃ r D1 D2, g_X_handed F a b D = some (r, D1) ∧ g_M_handed F a b D1 = some (r, D2) ∧ RL D2 E := by
  have hW := h.1
  have hC := h.2.2.1
  have h8 := wf_A8 hW
  unfold g_X_handed
  rw [X_canAskOf_s hC hW, ob_some, b01_if]
  cases hq : vx b (nA (D 117)) && (decide (0 < nP (D 117)) && vx a 31) && st (D 117) b.toNatClampNeg
  · rw [if_neg (by decide)]
    refine ⟨_, D, D, rfl, ?_, h⟩
    unfold g_M_handed
    rw [M_isSitter_s hW, hq, ob_some, if_pos (show b01 false = 0 from rfl)]
  · rw [if_pos rfl]
    have hq' := hq
    simp only [Bool.and_eq_true] at hq'
    obtain ⟨⟨v1, v2, v3⟩, v4⟩ := hq'
    obtain ⟨x, hx, rfl⟩ := vx_of (by omega) v1
    obtain ⟨y, hy, rfl⟩ := vx_of (by decide) v3
    rw [nI_clamp (by omega)] at v4
    obtain ⟨A, a1, a2, a3, a4⟩ := X_find_s (F := F) (by omega) hC hW (show y ≤ 30 by omega) false
    have hFX : FX D A := fun c hc => a2 c (by omega)
    have e117 := hFX 117 (by omega)
    obtain ⟨M, m1, m2, m3, m4, m5⟩ := M_handAll_s (D := A) hF (by rw [e117]; exact hW) (show y ≤ 30 by omega)
    rw [e117] at m4 m5
    have a1' : g_HatSearch_find F (nI y) (nI 0) D = some A := a1
    have hRL := RL_q h (FR_XM hFX (FM_hand m2 m3)) (E' := E) (fun _ _ _ => rfl)
    have eM : g_M_handed F (nI y) (nI x) A = if M 116 30 = 0 then some (-1, M) else some (M 132 x, M) := by
      unfold g_M_handed
      rw [M_isSitter_s (by rw [e117]; exact hW), e117, hq, ob_some, if_neg (show ¬ b01 true = 0 by decide), m1, ob_some, rk_in (show x < 8 by omega) (by decide), nI_clamp (by omega)]
    rw [a1', ob_some, rk_in (show x < 8 by omega) (by decide), nI_clamp (by omega)]
    have hl := HL_len hW y
    cases hL : HL (D 117) y with
    | nil =>
      rw [hL] at a3 m4
      rw [if_pos (by rw [a3]; rfl)]
      exact ⟨_, A, M, rfl, by rw [eM, if_pos (by rw [m4]; rfl)], hRL⟩
    | cons u B =>
      have e1 : acc false [] (u :: B) = [u] := rfl
      rw [hL] at a3 a4 m4 hl
      rw [e1] at a3 a4
      rw [if_neg (by rw [a3]; exact fun z => absurd ((nI_z 1 (by decide)).mp z) (by decide)), a4 u [] rfl x hx v4]
      refine ⟨_, A, M, rfl, ?_, hRL⟩
      rw [eM, if_neg (by rw [m4]; exact fun z => absurd ((nI_z _ hl).mp z) (by simp)), m5 u B hL x hx]
end HS
