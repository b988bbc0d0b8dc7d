/-! ===== hats: all of the reference's handing ===== -/
section HT2
variable {F : Nat} {D : mx_D} {E : mx_E} {w : W_}
def ua (w : W_) (a : Nat) : UU := fun x => if x < a then -1 else w (40 + 6 * x + 5)
def HL (w : W_) (y : Nat) : List UU := sols w y (nA w) (2 ^ nH w - 1) (ua w (nA w))
theorem HL_len (hW : WF w) (y : Nat) : (HL w y).length < 2 ^ 31 := by
  have h8 := wf_A8 hW
  have h1 := sols_len hW y (nA w) (2 ^ nH w - 1) (ua w (nA w))
  have h2 : 8 ^ nA w ≤ 8 ^ 8 := Nat.pow_le_pow_right (by decide) h8
  have h3 : (8 : Nat) ^ 8 < 2 ^ 31 := by decide
  unfold HL
  omega
theorem UOK_ua (w : W_) : UOK w (ua w (nA w)) := fun x hx => Or.inl (if_pos hx)
theorem BN_8 : ∀ k, k ≤ 8 → BN k ≤ 1000000000 := by decide
theorem M_handAll_s (hF : 10000000000 ≤ F) (hW : WF (D 117)) {y : Nat} (hy : y ≤ 30) : ∃ D', g_M_handAll F (nI y) D = some D' ∧ (∀ c, c ≠ 116 → c ≠ 123 → c ≠ 131 → c ≠ 132 → D' c = D c) ∧ (∀ i, i ≠ 30 → D' 116 i = D 116 i) ∧ D' 116 30 = nI (HL (D 117) y).length ∧ ∀ a B, HL (D 117) y = a :: B → ∀ x, x < nA (D 117) → D' 132 x = a x := by
  generalize hw : D 117 = w at hW ⊢
  have h8 := wf_A8 hW
  have h9 := wf_H8 hW
  unfold g_M_handAll
  -- every hat off
  obtain ⟨S, ⟨s1, s2, s3⟩, e1⟩ := lpk0 (σ := mx_D) (fun a s => (∀ c, c ≠ 117 → c ≠ 131 → s c = sD D 116 30 (nI 0) c) ∧ s 117 = wu w (ua w a) ∧ ∀ x, x < a → s 131 x = w (40 + 6 * x + 5)) (fun f a s => g_M_handAll_7 F f (nI y) (nI a) s) (fun s => b_M_handAll_42 F (nI y) s) (F := F) (n := nA w) (s := sD D 116 30 (nI 0)) (by omega) ⟨fun _ _ _ => rfl, by
      rw [sD_nr _ _ _ (by decide), hw]
      have : ua w 0 = fun x => w (40 + 6 * x + 5) := by
        funext x
        unfold ua
        rw [if_neg (Nat.not_lt_zero x)]
      rw [this, wu_self], fun x hx => absurd hx (Nat.not_lt_zero x)⟩ (fun f a s ha hI => by
    obtain ⟨i1, i2, i3⟩ := hI
    show ∃ s', _ ∧ g_M_handAll_7 F (f + 1) (nI y) (nI a) s = g_M_handAll_7 F f (nI y) (nI (a + 1)) s'
    rw [s_M_handAll_7]
    unfold b_M_handAll_7
    rw [i2, wu_n w _ (show 4 < 40 ∨ 88 ≤ 4 by omega), wf_A hW, if_neg (nI_ge ha (by omega)), M_of_s s (by omega) (by decide), ob_some, i2, wu_5 w _ (by omega), rk_in (show a < 8 by omega) (by decide), nI_clamp (by omega), M_set5_s (by omega), ob_some, nI_add]
    refine ⟨_, ⟨fun c q1 q2 => ?_, ?_, fun x hx => ?_⟩, rfl⟩
    · rw [sD_nr _ _ _ q1, sD_nr _ _ _ q2, i1 c q1 q2]
    · rw [sD_row, sD_nr _ _ _ (by decide), i2, wu_upd w _ (by omega)]
      congr 1
      funext x
      by_cases e : x = a
      · subst e
        rw [upd_eq]
        unfold ua
        rw [if_pos (Nat.lt_succ_self x)]
      · rw [upd_ne _ _ e]
        unfold ua
        by_cases c : x < a
        · rw [if_pos c, if_pos (by omega)]
        · rw [if_neg c, if_neg (by omega)]
    · rw [sD_ne _ _ _ _ (by decide)]
      by_cases e : x = a
      · subst e
        rw [sD_eq]
        unfold ua
        rw [if_neg (Nat.lt_irrefl x)]
      · rw [sD_nj _ _ _ e]
        exact i3 x (by omega)) (fun f s hI => by
    show g_M_handAll_7 F (f + 1) (nI y) (nI (nA w)) s = _
    rw [s_M_handAll_7]
    unfold b_M_handAll_7
    rw [hI.2.1, wu_n w _ (show 4 < 40 ∨ 88 ≤ 4 by omega), wf_A hW, if_pos (nI_le (Nat.le_refl _) (by omega))])
  have e1' : g_M_handAll_7 F F (nI y) (nI 0) (sD D 116 30 (nI 0)) = b_M_handAll_42 F (nI y) S := e1
  rw [e1']
  -- the search
  have hM : MS S S w (ua w (nA w)) [] := ⟨fun _ _ _ _ _ => rfl, fun _ _ => rfl, s2, by rw [s1 116 (by decide) (by decide), sD_eq]; rfl, fun a B e => absurd e (by simp)⟩
  have hf : FRE w (ua w (nA w)) (2 ^ nH w - 1) (nA w - nA w) := fun h hh => by
    rw [Nat.testBit_two_pow_sub_one, decide_eq_true hh]
    exact ⟨fun _ x hx => absurd hx (by omega), fun _ => rfl⟩
  obtain ⟨rp, hr⟩ : ∃ rp : Int32, rp = if nxt w (nA w) < nA w then -1 else nI (nA w) := ⟨_, rfl⟩
  obtain ⟨s, X, b1, b2, b3⟩ := M_down_s (D0 := S) (F := F) (by omega) hW hy (nA w) (2 ^ nH w - 1) (ua w (nA w)) [] S rp (Nat.le_refl _) hM (UOK_ua w) hf (fun x _ h => if_pos h) (by have := HL_len hW y; unfold HL at this; simpa using this) (fun h => by
    rw [hr, if_pos h, pv_nxt w _ (Nat.le_refl _), Nat.sub_self]
    rfl)
  have hb := BN_8 (nA w) h8
  have e2 : b_M_handAll_42 F (nI y) S = EN F y w (nA w) rp F S := by
    unfold b_M_handAll_42 EN g_M_nextSitter
    have hn := M_nxt_s (F := F) hW s2 (nA w) F (Nat.le_refl _) (by omega)
    rw [Nat.sub_self] at hn
    rw [show (-1 : Int32) + nI 1 = nI 0 by decide, hn, ob_some, s2, wu_n w _ (show 4 < 40 ∨ 88 ≤ 4 by omega), wf_A hW]
    by_cases c : nxt w (nA w) < nA w
    · have nq : ¬ nI (nxt w (nA w)) = nI (nA w) := fun z => by have := (nI_eq (by omega) (by omega)).mp z; omega
      rw [if_neg nq, if_neg nq]
    · have := nxt_le w (nA w)
      have eq : nxt w (nA w) = nA w := by omega
      rw [hr, if_neg c, eq]
  have e3 := b3 (F - s) (by omega)
  rw [show F - s + s = F by omega] at e3
  have e4 : g_M_handAll_63 F (F - s) (nI y) rp X = g_M_handAll_178 F F (nI 0) X := by
    obtain ⟨g, hg⟩ : ∃ g, F - s = g + 1 := ⟨F - s - 1, by omega⟩
    rw [hg, s_M_handAll_63]
    unfold b_M_handAll_63
    rw [b2.2.2.1, wu_n w _ (show 4 < 40 ∨ 88 ≤ 4 by omega), wf_A hW, hr]
    by_cases c : nxt w (nA w) < nA w
    · rw [if_pos c, if_pos (show (-1 : Int32) < 0 by decide)]
    · rw [if_neg c, if_neg (nI_pos (by omega)), if_pos (nI_le (Nat.le_refl _) (by omega))]
  rw [e2, e3, e4]
  have x131 : ∀ x, x < nA w → X 131 x = w (40 + 6 * x + 5) := fun x hx => by rw [b2.1 131 (by decide) (by decide) (by decide) (by decide), s3 x hx]
  -- every hat on again
  obtain ⟨r, r1, r2, r3⟩ := lp0 (F := F) (s := X) (fun a (t : mx_D) => (∀ c, c ≠ 117 → t c = X c) ∧ t 117 = wu w (fun x => if x < a then w (40 + 6 * x + 5) else ua w (nA w) x)) (fun (r : mx_D) => (∀ c, c ≠ 117 → r c = X c) ∧ r 117 = w) (fun f a t => g_M_handAll_178 F f (nI a) t) (n := nA w) (by omega) ⟨fun _ _ => rfl, by
      rw [b2.2.2.1]
      congr 1⟩ (fun f a t ha hI => by
    obtain ⟨i1, i2⟩ := hI
    show ∃ s', _ ∧ g_M_handAll_178 F (f + 1) (nI a) t = g_M_handAll_178 F f (nI (a + 1)) s'
    rw [s_M_handAll_178]
    unfold b_M_handAll_178
    rw [i2, wu_n w _ (show 4 < 40 ∨ 88 ≤ 4 by omega), wf_A hW, if_neg (nI_ge ha (by omega)), rk_in (show a < 8 by omega) (by decide), nI_clamp (by omega), M_set5_s (by omega), ob_some, nI_add]
    refine ⟨_, ⟨fun c q1 => by rw [sD_nr _ _ _ q1, i1 c q1], ?_⟩, rfl⟩
    rw [sD_row, i2, wu_upd w _ (by omega), i1 131 (by decide), x131 a ha]
    congr 1
    funext x
    by_cases e : x = a
    · subst e
      rw [upd_eq, if_pos (Nat.lt_succ_self x)]
    · rw [upd_ne _ _ e]
      by_cases c : x < a
      · rw [if_pos c, if_pos (by omega)]
      · rw [if_neg c, if_neg (by omega)]) (fun f t hI => by
    obtain ⟨i1, i2⟩ := hI
    refine ⟨t, ?_, i1, ?_⟩
    · show g_M_handAll_178 F (f + 1) (nI (nA w)) t = _
      rw [s_M_handAll_178]
      unfold b_M_handAll_178
      rw [i2, wu_n w _ (show 4 < 40 ∨ 88 ≤ 4 by omega), wf_A hW, if_pos (nI_le (Nat.le_refl _) (by omega))]
    · rw [i2]
      have : (fun x => if x < nA w then w (40 + 6 * x + 5) else ua w (nA w) x) = fun x => w (40 + 6 * x + 5) := by
        funext x
        by_cases c : x < nA w
        · rw [if_pos c]
        · rw [if_neg c]
          unfold ua
          rw [if_neg c]
      rw [this, wu_self])
  refine ⟨r, r1, fun c q1 q2 q3 q4 => ?_, fun i hi => ?_, ?_, fun a B e x hx => ?_⟩
  · by_cases e : c = 117
    · rw [e, r3, hw]
    · rw [r2 c e, b2.1 c q1 e q2 q4, s1 c e q3, sD_nr _ _ _ q1]
  · rw [r2 116 (by decide), b2.2.1 i hi, s1 116 (by decide) (by decide), sD_nj _ _ _ hi]
  · rw [r2 116 (by decide), b2.2.2.2.1]
    rfl
  · rw [r2 132 (by decide)]
    exact b2.2.2.2.2 a B e x hx
end HT2
