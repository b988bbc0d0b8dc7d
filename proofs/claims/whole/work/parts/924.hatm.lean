/-! ===== hats: the reference's search ===== -/
section HMr
variable {F : Nat} {D D0 : mx_D} {E : mx_E} {w : W_}
def MS (D0 D : mx_D) (w : W_) (u : UU) (A : List UU) : Prop := (∀ c, c ≠ 116 → c ≠ 117 → c ≠ 123 → c ≠ 132 → D c = D0 c) ∧ (∀ i, i ≠ 30 → D 116 i = D0 116 i) ∧ D 117 = wu w u ∧ D 116 30 = nI A.length ∧ ∀ a B, A = a :: B → ∀ x, x < nA w → D 132 x = a x
theorem MS_set {u : UU} {A : List UU} (h : MS D0 D w u A) {x : Nat} (hx : x < 8) (v : Int32) : MS D0 (sD D 117 (40 + 6 * x + 5) v) w (upd u x v) A := by
  obtain ⟨h1, h2, h3, h4, h5⟩ := h
  refine ⟨fun c q1 q2 q3 q4 => ?_, fun i hi => ?_, ?_, ?_, fun a B e z hz => ?_⟩
  · rw [sD_nr _ _ _ q2, h1 c q1 q2 q3 q4]
  · rw [sD_ne _ _ _ _ (by decide), h2 i hi]
  · rw [sD_row, h3, wu_upd w u hx v]
  · rw [sD_ne _ _ _ _ (by decide), h4]
  · rw [sD_ne _ _ _ _ (by decide), h5 a B e z hz]
theorem M_met_s (hF : 1000 ≤ F) (hW : WF w) {y : Nat} (hy : y ≤ 30) {u : UU} (hu : UOK w u) {A : List UU} (h : MS D0 D w u A) (hl : A.length < 2 ^ 31) : ∃ D', g_M_metHats F (nI y) D = some D' ∧ MS D0 D' w u (A ++ if LV w y u = true then [u] else []) := by
  have h8 := wf_A8 hW
  obtain ⟨h1, h2, h3, h4, h5⟩ := h
  obtain ⟨X, x1, x2, -⟩ := M_isLevel_s (D := D) (F := F) (by omega) (by rw [h3]; exact WF_wu hW hu) hy
  rw [h3] at x1
  have hX : MS D0 X w u A := ⟨fun c q1 q2 q3 q4 => by rw [x2 c q3, h1 c q1 q2 q3 q4], fun i hi => by rw [x2 116 (by decide), h2 i hi], by rw [x2 117 (by decide), h3], by rw [x2 116 (by decide), h4], fun a B e x hx => by rw [x2 132 (by decide), h5 a B e x hx]⟩
  unfold g_M_metHats
  rw [x1, ob_some]
  dsimp only
  have eL : lev (wu w u) y = LV w y u := rfl
  rw [eL]
  cases hL : LV w y u
  · rw [if_pos (show b01 false = 0 from rfl), if_neg (show ¬ false = true by decide), List.append_nil]
    exact ⟨X, rfl, hX⟩
  · rw [if_neg (show ¬ b01 true = 0 by decide), if_pos rfl]
    obtain ⟨g1, g2, g3, g4, g5⟩ := hX
    have hz : X 116 30 = 0 ↔ A.length = 0 := by rw [g4]; exact nI_z A.length hl
    by_cases c : A.length = 0
    · rw [if_pos (hz.mpr c)]
      have eA : A = [] := List.eq_nil_of_length_eq_zero c
      subst eA
      obtain ⟨r, r1, r2, r3⟩ := lp0 (F := F) (s := X) (fun a (s : mx_D) => (∀ c, c ≠ 132 → s c = X c) ∧ ∀ x, x < a → s 132 x = u x) (fun (r : mx_D) => (∀ c, c ≠ 132 → c ≠ 116 → r c = X c) ∧ ((∀ i, i ≠ 30 → r 116 i = X 116 i) ∧ r 116 30 = X 116 30 + nI 1 ∧ ∀ x, x < nA w → r 132 x = u x)) (fun f a s => g_M_metHats_18 F f (nI a) s) (n := nA w) (by omega) ⟨fun _ _ => rfl, fun x hx => absurd hx (Nat.not_lt_zero x)⟩ (fun f a s ha hI => by
        show ∃ s', _ ∧ g_M_metHats_18 F (f + 1) (nI a) s = g_M_metHats_18 F f (nI (a + 1)) s'
        rw [s_M_metHats_18]
        unfold b_M_metHats_18
        have e7 : s 117 = wu w u := by rw [hI.1 117 (by decide), g3]
        rw [e7, wu_n w u (show 4 < 40 ∨ 88 ≤ 4 by omega), wf_A hW, if_neg (nI_ge ha (by omega)), M_of_s s (by omega) (by decide), ob_some, e7, wu_5 w u (by omega), rk_in (show a < 8 by omega) (by decide), nI_clamp (by omega), nI_add]
        refine ⟨_, ⟨fun c hc => by rw [sD_nr _ _ _ hc, hI.1 c hc], fun x hx => ?_⟩, rfl⟩
        by_cases e : x = a
        · subst e
          rw [sD_eq]
        · rw [sD_nj _ _ _ e]
          exact hI.2 x (by omega)) (fun f s hI => by
        refine ⟨sD s 116 30 (s 116 30 + nI 1), ?_, fun c q1 q2 => ?_, fun i hi => ?_, ?_, fun x hx => ?_⟩
        · show g_M_metHats_18 F (f + 1) (nI (nA w)) s = _
          rw [s_M_metHats_18]
          unfold b_M_metHats_18
          have e7 : s 117 = wu w u := by rw [hI.1 117 (by decide), g3]
          rw [e7, wu_n w u (show 4 < 40 ∨ 88 ≤ 4 by omega), wf_A hW, if_pos (nI_le (Nat.le_refl _) (by omega))]
        · rw [sD_nr _ _ _ q2, hI.1 c q1]
        · rw [sD_nj _ _ _ hi, hI.1 116 (by decide)]
        · rw [sD_eq, hI.1 116 (by decide)]
        · rw [sD_ne _ _ _ _ (by decide)]
          exact hI.2 x hx)
      have r1' : g_M_metHats_18 F F (nI 0) X = some r := r1
      rw [r1']
      refine ⟨r, rfl, fun c q1 q2 q3 q4 => by rw [r2 c q4 q1, g1 c q1 q2 q3 q4], fun i hi => by rw [r3.1 i hi, g2 i hi], by rw [r2 117 (by decide) (by decide), g3], ?_, fun a B e x hx => ?_⟩
      · rw [r3.2.1, g4, nI_add]
        rfl
      · have e1 : ([] ++ [u] : List UU) = a :: B := e
        rw [List.nil_append] at e1
        injection e1 with e2 _
        rw [r3.2.2 x hx, e2]
    · rw [if_neg (fun z => c (hz.mp z))]
      refine ⟨_, rfl, fun c q1 q2 q3 q4 => by rw [sD_nr _ _ _ q1, g1 c q1 q2 q3 q4], fun i hi => by rw [sD_nj _ _ _ hi, g2 i hi], by rw [sD_nr _ _ _ (by decide), g3], ?_, fun a B e x hx => ?_⟩
      · rw [sD_eq, g4, nI_add, List.length_append]
        rfl
      · rw [sD_ne _ _ _ _ (by decide)]
        cases A with
        | nil => exact absurd rfl c
        | cons b C =>
          have e1 : b :: (C ++ [u]) = a :: B := e
          injection e1 with e2 _
          rw [g5 b C rfl x hx, e2]
/-! who sits next, who sat before -/
def nxt (w : W_) : Nat → Nat
  | 0 => nA w
  | k + 1 => if st w (nA w - (k + 1)) = true then nA w - (k + 1) else nxt w k
def pv (w : W_) : Nat → Int32
  | 0 => -1
  | p + 1 => if st w p = true then nI p else pv w p
theorem nxt_le (w : W_) : ∀ k, nxt w k ≤ nA w
  | 0 => Nat.le_refl _
  | k + 1 => by
    show (if _ then _ else _) ≤ _
    split
    · exact Nat.sub_le _ _
    · exact nxt_le w k
theorem pv_nxt (w : W_) : ∀ k, k ≤ nA w → pv w (nxt w k) = pv w (nA w - k)
  | 0, _ => rfl
  | k + 1, hk => by
    show pv w (if _ then _ else _) = _
    by_cases c : st w (nA w - (k + 1)) = true
    · rw [if_pos c]
    · rw [if_neg c, pv_nxt w k (by omega), show nA w - k = nA w - (k + 1) + 1 by omega]
      show (if _ then _ else _) = _
      rw [if_neg c]
theorem st_wu (w : W_) (u : UU) (x : Nat) : st (wu w u) x = st w x := by
  unfold st
  rw [wu_k _ _ (by omega)]
theorem M_nxt_s (hW : WF w) {u : UU} (h7 : D 117 = wu w u) : ∀ k j, k ≤ nA w → k < j → g_M_nextSitter_4 F D j (nI (nA w - k)) = some (nI (nxt w k))
  | 0, j, _, hj => by
    obtain ⟨j, rfl⟩ : ∃ g, j = g + 1 := ⟨j - 1, by omega⟩
    have h8 := wf_A8 hW
    rw [s_M_nextSitter_4]
    unfold b_M_nextSitter_4
    rw [h7, wu_n w u (show 4 < 40 ∨ 88 ≤ 4 by omega), wf_A hW, if_pos (nI_le (by omega) (by omega))]
    rfl
  | k + 1, j, hk, hj => by
    obtain ⟨j, rfl⟩ : ∃ g, j = g + 1 := ⟨j - 1, by omega⟩
    have h8 := wf_A8 hW
    rw [s_M_nextSitter_4]
    unfold b_M_nextSitter_4
    have e : nxt w (k + 1) = if st w (nA w - (k + 1)) = true then nA w - (k + 1) else nxt w k := rfl
    rw [M_sits_s D (by omega), ob_some, h7, st_wu, wu_n w u (show 4 < 40 ∨ 88 ≤ 4 by omega), wf_A hW, if_neg (nI_ge (by omega) (by omega)), e, nI_add, b01_if]
    by_cases c : st w (nA w - (k + 1)) = true
    · rw [if_pos c, if_pos c]
    · rw [if_neg c, if_neg c, show nA w - (k + 1) + 1 = nA w - k by omega]
      exact M_nxt_s hW h7 k j (by omega) (by omega)
theorem M_ahead_s (hW : WF w) {u : UU} (h7 : D 117 = wu w u) : ∀ p j, p ≤ 8 → p < j → g_M_sitterAhead_4 F D j (iI ((p : Int) - 1)) = some (pv w p)
  | 0, j, _, hj => by
    obtain ⟨j, rfl⟩ : ∃ g, j = g + 1 := ⟨j - 1, by omega⟩
    rw [s_M_sitterAhead_4]
    unfold b_M_sitterAhead_4
    rw [if_pos (show iI (((0 : Nat) : Int) - 1) < 0 by decide)]
    rfl
  | p + 1, j, hp, hj => by
    obtain ⟨j, rfl⟩ : ∃ g, j = g + 1 := ⟨j - 1, by omega⟩
    rw [s_M_sitterAhead_4]
    unfold b_M_sitterAhead_4
    have e1 : iI (((p + 1 : Nat) : Int) - 1) = nI p := by
      rw [iI_nI]
      congr 1
      omega
    have e : pv w (p + 1) = if st w p = true then nI p else pv w p := rfl
    have e2 : nI p + (-1 : Int32) = iI ((p : Int) - 1) := by
      rw [iI_nI, iI_m1, iI_add]
      rfl
    rw [e1, if_neg (nI_pos (by omega)), M_sits_s D (by omega), ob_some, h7, st_wu, e, b01_if, e2]
    by_cases c : st w p = true
    · rw [if_pos c, if_pos c]
    · rw [if_neg c, if_neg c]
      exact M_ahead_s hW h7 p j (by omega) (by omega)
theorem M_hfree_s (hF : 1000 ≤ F) {u : UU} (h7 : D 117 = wu w u) {h p : Nat} (hp : p ≤ 8) : ((∃ x, x < p ∧ st w x = true ∧ u x = nI h) ∧ g_M_isHatFree F D (nI h) (nI p) = some (nI 0)) ∨ ((∀ x, x < p → st w x = true → u x ≠ nI h) ∧ g_M_isHatFree F D (nI h) (nI p) = some (nI 1)) := by
  have q := lpe (fun x => st w x = true ∧ u x = nI h) (fun f a => g_M_isHatFree_2 F D f (nI h) (nI p) (nI a)) (some (nI 0)) (some (nI 1)) p (fun f a ha => by
    show (_ ∧ g_M_isHatFree_2 F D (f + 1) (nI h) (nI p) (nI a) = _) ∨ (_ ∧ g_M_isHatFree_2 F D (f + 1) (nI h) (nI p) (nI a) = g_M_isHatFree_2 F D f (nI h) (nI p) (nI (a + 1)))
    rw [s_M_isHatFree_2]
    unfold b_M_isHatFree_2
    rw [if_neg (nI_ge ha (by omega)), M_sits_s D (by omega), ob_some, M_of_s D (by omega) (by decide), ob_some, h7, st_wu, wu_5 w u (by omega), nI_add, b01_if]
    by_cases c : st w a = true
    · rw [if_pos c]
      by_cases c2 : u a = nI h
      · rw [if_pos c2]
        exact Or.inl ⟨⟨c, c2⟩, rfl⟩
      · rw [if_neg c2]
        exact Or.inr ⟨fun z => c2 z.2, rfl⟩
    · rw [if_neg c]
      exact Or.inr ⟨fun z => c z.1, rfl⟩) (fun f => by
    show g_M_isHatFree_2 F D (f + 1) (nI h) (nI p) (nI p) = _
    rw [s_M_isHatFree_2]
    unfold b_M_isHatFree_2
    rw [if_pos (nI_le (Nat.le_refl _) (by omega))]) p F 0 (by omega) (by omega)
  rcases q with ⟨⟨b, -, b2, b3⟩, q⟩ | ⟨q1, q⟩
  · exact Or.inl ⟨⟨b, b2, b3⟩, q⟩
  · exact Or.inr ⟨fun x hx hs e => q1 x (Nat.zero_le x) hx ⟨hs, e⟩, q⟩
def FRE (w : W_) (u : UU) (f p : Nat) : Prop := ∀ h, h < nH w → (f.testBit h = true ↔ ∀ x, x < p → st w x = true → u x ≠ nI h)
theorem FRE_t (hW : WF w) {u : UU} {f p h : Nat} (hF : FRE w u f p) (hs : st w p = true) (hh : h < nH w) : FRE w (upd u p (nI h)) (nand f (2 ^ h)) (p + 1) := fun i hi => by
  have h9 := wf_H8 hW
  rw [nand_tb, Nat.testBit_two_pow, Bool.and_eq_true, hF i hi]
  constructor
  · intro ⟨z1, z2⟩ x hx sx
    by_cases e : x = p
    · subst e
      rw [upd_eq]
      intro q
      have := (nI_eq (by omega) (by omega)).mp q
      simp [this] at z2
    · rw [upd_ne _ _ e]
      exact z1 x (by omega) sx
  · intro z
    refine ⟨fun x hx sx => ?_, ?_⟩
    · have := z x (by omega) sx
      rw [upd_ne _ _ (by omega)] at this
      exact this
    · have := z p (Nat.lt_succ_self p) hs
      rw [upd_eq] at this
      have : h ≠ i := fun q => this (by rw [q])
      simp [this]
theorem FRE_f {u : UU} {f p : Nat} (hF : FRE w u f p) (hs : st w p = false) : FRE w u f (p + 1) := fun i hi => by
  rw [hF i hi]
  constructor
  · intro z x hx sx
    by_cases e : x = p
    · subst e
      rw [hs] at sx
      exact absurd sx (by decide)
    · exact z x (by omega) sx
  · intro z x hx sx
    exact z x (by omega) sx
def BN : Nat → Nat
  | 0 => 1
  | k + 1 => 1 + 8 * (BN k + 1)
def EN (F y : Nat) (w : W_) (k : Nat) (rp : Int32) (j : Nat) (D : mx_D) : Option mx_D := if nI (nxt w k) = nI (nA w) then Option.bind (g_M_metHats F (nI y) D) (fun r => g_M_handAll_63 F j (nI y) rp r) else g_M_handAll_63 F j (nI y) (nI (nxt w k)) D
theorem UOK_upd {u : UU} (hu : UOK w u) {p : Nat} {v : Int32} (hv : v = -1 ∨ ∃ i, i < nH w ∧ v = nI i) : UOK w (upd u p v) := fun x hx => by
  by_cases e : x = p
  · subst e
    rw [upd_eq]
    exact hv
  · rw [upd_ne _ _ e]
    exact hu x hx
theorem M_down_s (hF : 1000 ≤ F) (hW : WF w) {y : Nat} (hy : y ≤ 30) : ∀ k f (u : UU) (A : List UU) (D : mx_D) (rp : Int32), k ≤ nA w → MS D0 D w u A → UOK w u → FRE w u f (nA w - k) → (∀ x, nA w - k ≤ x → x < nA w → u x = -1) → A.length + (sols w y k f u).length < 2 ^ 31 → (nxt w k < nA w → rp = pv w (nxt w k)) → ∃ s D', s ≤ BN k ∧ MS D0 D' w u (A ++ sols w y k f u) ∧ ∀ f0, 0 < f0 → EN F y w k rp (f0 + s) D = g_M_handAll_63 F f0 (nI y) rp D'
  | 0, f, u, A, D, rp, _, hM, hu, _, _, hl, _ => by
    obtain ⟨D', d1, d2⟩ := M_met_s hF hW hy hu hM (by omega)
    refine ⟨0, D', Nat.zero_le _, d2, fun f0 _ => ?_⟩
    unfold EN
    rw [if_pos (show nI (nxt w 0) = nI (nA w) from rfl), d1, ob_some, Nat.add_zero]
  | k + 1, f, u, A, D, rp, hk, hM, hu, hf, hm, hl, hr => by
    have h8 := wf_A8 hW
    have h9 := wf_H8 hW
    have en : nxt w (k + 1) = if st w (nA w - (k + 1)) = true then nA w - (k + 1) else nxt w k := rfl
    cases hs : st w (nA w - (k + 1))
    · rw [hs, if_neg (by decide)] at en
      rw [sols_f hs] at hl ⊢
      have hf2 := FRE_f hf hs
      rw [show nA w - (k + 1) + 1 = nA w - k by omega] at hf2
      obtain ⟨s, D', s1, s2, s3⟩ := M_down_s hF hW hy k f u A D rp (by omega) hM hu hf2 (fun x h1 h2 => hm x (by omega) h2) hl (fun h => by rw [← en]; exact hr (by rw [en]; exact h))
      refine ⟨s, D', ?_, s2, fun f0 hf0 => ?_⟩
      · show s ≤ 1 + 8 * (BN k + 1)
        omega
      · have := s3 f0 hf0
        unfold EN at this ⊢
        rw [en]
        exact this
    · rw [hs, if_pos rfl] at en
      rw [sols_t hs] at hl ⊢
      have hrp := hr (by rw [en]; omega)
      rw [en] at hrp
      generalize hp : nA w - (k + 1) = p at en hs hf hm hrp
      have hpA : p < nA w := by omega
      have hup : u p = -1 := hm p (Nat.le_refl p) hpA
      have self : ∀ v : Int32, upd (upd u p v) p (-1) = u := fun v => by rw [upd_upd, ← hup, upd_same]
      have ekp : nA w - k = p + 1 := by omega
      -- one hat after another
      have try_ : ∀ n h, h + n = nH w → ∀ j, n < j → ∀ (A : List UU) (D : mx_D) (v : Int32), MS D0 D w (upd u p v) A → (v = -1 ∨ ∃ i, i < nH w ∧ v = nI i) → A.length + (fl (sg1 w y k f u) n h).length < 2 ^ 31 → ∃ s D', s ≤ n * (BN k + 1) ∧ MS D0 D' w u (A ++ fl (sg1 w y k f u) n h) ∧ ∀ f0, 0 < f0 → g_M_handAll_86 F (g_M_handAll_63 F (f0 + s)) j (nI y) (nI p) (nI h) D = g_M_handAll_63 F f0 (nI y) rp D' := by
        intro n
        induction n with
        | zero =>
          intro h hh j hj A D v hM' hv' hl'
          obtain ⟨j, rfl⟩ : ∃ g, j = g + 1 := ⟨j - 1, by omega⟩
          obtain rfl : h = nH w := by omega
          have h7 := hM'.2.2.1
          have hset := MS_set hM' (show p < 8 by omega) (-1)
          rw [self v] at hset
          refine ⟨0, sD D 117 (40 + 6 * p + 5) (-1), Nat.zero_le _, ?_, fun f0 _ => ?_⟩
          rotate_left
          · rw [show g_M_handAll_86 F (g_M_handAll_63 F (f0 + 0)) (j + 1) = b_M_handAll_86 F (g_M_handAll_63 F (f0 + 0)) (g_M_handAll_86 F (g_M_handAll_63 F (f0 + 0)) j) from rfl]
            unfold b_M_handAll_86 b_M_handAll_111
            have e5 : D 117 5 = nI (nH w) := by rw [h7, wu_n w _ (show 5 < 40 ∨ 88 ≤ 5 by omega), wf_H hW]
            rw [e5, if_pos (nI_le (Nat.le_refl _) (by omega)), if_pos rfl, M_set5_s (by omega), ob_some]
            unfold g_M_sitterAhead
            rw [iI_nI p, iI_nI 1, iI_sub]
            have := M_ahead_s (F := F) hW hset.2.2.1 p F (by omega) (by omega)
            rw [show ((1 : Nat) : Int) = 1 from rfl, this, ob_some, ← hrp, Nat.add_zero]
          · have : A ++ fl (sg1 w y k f u) 0 (nH w) = A := List.append_nil A
            rw [this]
            exact hset
        | succ n ih =>
          intro h hh j hj A D v hM' hv' hl'
          obtain ⟨j, rfl⟩ : ∃ g, j = g + 1 := ⟨j - 1, by omega⟩
          have hhH : h < nH w := by omega
          have h7 := hM'.2.2.1
          have e5 : D 117 5 = nI (nH w) := by rw [h7, wu_n w _ (show 5 < 40 ∨ 88 ≤ 5 by omega), wf_H hW]
          have estep : ∀ g, g_M_handAll_86 F (g_M_handAll_63 F g) (j + 1) (nI y) (nI p) (nI h) D = Option.bind (g_M_isHatFree F D (nI h) (nI p)) (fun r10 => if r10 = 0 then g_M_handAll_86 F (g_M_handAll_63 F g) j (nI y) (nI p) (nI (h + 1)) D else b_M_handAll_111 F (g_M_handAll_63 F g) (nI y) (nI p) (nI h) D) := fun g => by
            rw [show g_M_handAll_86 F (g_M_handAll_63 F g) (j + 1) = b_M_handAll_86 F (g_M_handAll_63 F g) (g_M_handAll_86 F (g_M_handAll_63 F g) j) from rfl]
            unfold b_M_handAll_86
            rw [e5, if_neg (nI_ge hhH (by omega)), nI_add]
          have ebound : n * (BN k + 1) ≤ (n + 1) * (BN k + 1) := Nat.mul_le_mul_right _ (Nat.le_succ n)
          rw [fl_s] at hl' ⊢
          have low_ : ∀ x, x < p → upd u p v x = u x := fun x hx => upd_ne _ _ (by omega)
          rcases M_hfree_s (F := F) hF h7 (h := h) (p := p) (by omega) with ⟨⟨x, x1, x2, x3⟩, q⟩ | ⟨q1, q⟩
          · -- somebody has it
            have hb : f.testBit h = false := by
              cases z : f.testBit h
              · rfl
              · have := (hf h hhH).mp z x x1 x2
                rw [low_ x x1] at x3
                exact absurd x3 this
            have e0 : sg1 w y k f u h = [] := by
              unfold sg1
              rw [hb, if_neg (by decide)]
            rw [e0, List.nil_append] at hl' ⊢
            obtain ⟨s, D', s1, s2, s3⟩ := ih (h + 1) (by omega) j (by omega) A D v hM' hv' hl'
            refine ⟨s, D', by omega, s2, fun f0 hf0 => ?_⟩
            rw [estep, q, ob_some, if_pos (show nI 0 = 0 from rfl)]
            exact s3 f0 hf0
          · -- it is free
            have hb : f.testBit h = true := (hf h hhH).mpr (fun x x1 x2 => by
              have := q1 x x1 x2
              rw [low_ x x1] at this
              exact this)
            have e0 : sg1 w y k f u h = sols w y k (nand f (2 ^ h)) (upd u p (nI h)) := by
              unfold sg1
              rw [if_pos hb, hp]
            rw [e0] at hl' ⊢
            have hset := MS_set hM' (show p < 8 by omega) (nI h)
            rw [upd_upd] at hset
            have hu1 : UOK w (upd u p (nI h)) := UOK_upd hu (Or.inr ⟨h, hhH, rfl⟩)
            have hf1 := FRE_t hW hf hs hhH
            rw [← ekp] at hf1
            rw [List.length_append] at hl'
            obtain ⟨s1, X, b1, b2, b3⟩ := M_down_s hF hW hy k (nand f (2 ^ h)) (upd u p (nI h)) A _ (nI p) (by omega) hset hu1 hf1 (fun x h1 h2 => by
              rw [upd_ne _ _ (by omega)]
              exact hm x (by omega) h2) (by omega) (fun _ => by
              rw [pv_nxt w k (by omega), ekp]
              show nI p = if _ then _ else _
              rw [if_pos hs])
            obtain ⟨s2, Y, c1, c2, c3⟩ := ih (h + 1) (by omega) F (by omega) (A ++ sols w y k (nand f (2 ^ h)) (upd u p (nI h))) X (nI h) b2 (Or.inr ⟨h, hhH, rfl⟩) (by
              rw [List.length_append]
              omega)
            refine ⟨s2 + 1 + s1, Y, ?_, ?_, fun f0 hf0 => ?_⟩
            · rw [Nat.succ_mul]
              omega
            · rw [← List.append_assoc]
              exact c2
            · rw [estep, q, ob_some, if_neg (show ¬ nI 1 = 0 by decide)]
              unfold b_M_handAll_111
              rw [e5, if_neg (fun z => by have := (nI_eq (by omega) (by omega)).mp z; omega), M_set5_s (by omega), ob_some]
              unfold g_M_nextSitter
              have hn := M_nxt_s (F := F) hW hset.2.2.1 k F (by omega) (by omega)
              rw [ekp] at hn
              have e4 : (sD D 117 (40 + 6 * p + 5) (nI h)) 117 4 = nI (nA w) := by rw [hset.2.2.1, wu_n w _ (show 4 < 40 ∨ 88 ≤ 4 by omega), wf_A hW]
              rw [nI_add, hn, ob_some, e4]
              have h3 := b3 (f0 + s2 + 1) (by omega)
              unfold EN at h3
              rw [show f0 + (s2 + 1 + s1) = f0 + s2 + 1 + s1 by omega]
              refine h3.trans ?_
              rw [s_M_handAll_63]
              unfold b_M_handAll_63
              have x7 := b2.2.2.1
              have x4 : X 117 4 = nI (nA w) := by rw [x7, wu_n w _ (show 4 < 40 ∨ 88 ≤ 4 by omega), wf_A hW]
              rw [if_neg (nI_pos (by omega)), x4, if_neg (nI_ge hpA (by omega)), M_of_s X (by omega) (by decide), ob_some, x7, wu_5 w _ (by omega), upd_eq, nI_add]
              exact c3 f0 hf0
      obtain ⟨s, D', s1, s2, s3⟩ := try_ (nH w) 0 (Nat.zero_add _) F (by omega) A D (-1) (by rw [← hup, upd_same]; exact hM) (Or.inl rfl) hl
      refine ⟨s + 1, D', ?_, s2, fun f0 hf0 => ?_⟩
      · show s + 1 ≤ 1 + 8 * (BN k + 1)
        have : nH w * (BN k + 1) ≤ 8 * (BN k + 1) := Nat.mul_le_mul_right _ h9
        omega
      · unfold EN
        rw [en, if_neg (fun z => by have := (nI_eq (by omega) (by omega)).mp z; omega), show f0 + (s + 1) = f0 + s + 1 from rfl, s_M_handAll_63]
        unfold b_M_handAll_63
        have x7 := hM.2.2.1
        have x4 : D 117 4 = nI (nA w) := by rw [x7, wu_n w _ (show 4 < 40 ∨ 88 ≤ 4 by omega), wf_A hW]
        rw [if_neg (nI_pos (by omega)), x4, if_neg (nI_ge hpA (by omega)), M_of_s D (by omega) (by decide), ob_some, x7, wu_5 w _ (by omega), hup, show (-1 : Int32) + nI 1 = nI 0 by decide]
        exact s3 f0 hf0
end HMr
