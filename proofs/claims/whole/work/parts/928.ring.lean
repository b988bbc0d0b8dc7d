/-! ===== rings: who gets whose hat ===== -/
section RG
variable {F : Nat} {D : mx_D} {E : mx_E} {w : W_}
def INJ (w : W_) (v : UU) (p : Nat) : Prop := ∀ x z, x < p → z < p → st w x = true → st w z = true → v x = v z → x = z
theorem fl_mem {g : Nat → List UU} {u : UU} : ∀ n h, u ∈ fl g n h → ∃ i, h ≤ i ∧ i < h + n ∧ u ∈ g i
  | 0, _, hm => by
    unfold fl at hm
    exact absurd hm (by simp)
  | n + 1, h, hm => by
    rw [fl_s, List.mem_append] at hm
    rcases hm with q | q
    · exact ⟨h, Nat.le_refl h, by omega, q⟩
    · obtain ⟨i, i1, i2, i3⟩ := fl_mem n (h + 1) q
      exact ⟨i, by omega, by omega, i3⟩
theorem sols_inj (hW : WF w) (y : Nat) : ∀ k f (v : UU), k ≤ nA w → FRE w v f (nA w - k) → INJ w v (nA w - k) → ∀ u, u ∈ sols w y k f v → INJ w u (nA w)
  | 0, f, v, _, _, hi, u, hm => by
    rw [sols_0] at hm
    by_cases c : LV w y v = true
    · rw [if_pos c, List.mem_singleton] at hm
      rw [hm]
      exact hi
    · rw [if_neg c] at hm
      exact absurd hm (by simp)
  | k + 1, f, v, hk, hf, hi, u, hm => by
    have e : nA w - k = nA w - (k + 1) + 1 := by omega
    cases hs : st w (nA w - (k + 1))
    · rw [sols_f hs] at hm
      refine sols_inj hW y k f v (by omega) (by rw [e]; exact FRE_f hf hs) (fun x z hx hz sx sz q => ?_) u hm
      have ne : ∀ x, x < nA w - k → st w x = true → x < nA w - (k + 1) := fun x hx sx => by
        by_cases e : x = nA w - (k + 1)
        · rw [e, hs] at sx
          exact absurd sx (by decide)
        · omega
      exact hi x z (ne x hx sx) (ne z hz sz) sx sz q
    · rw [sols_t hs] at hm
      obtain ⟨h, -, h2, h3⟩ := fl_mem _ _ hm
      unfold sg1 at h3
      by_cases c : f.testBit h = true
      · rw [if_pos c] at h3
        have hh : h < nH w := by omega
        have fre := (hf h hh).mp c
        refine sols_inj hW y k _ _ (by omega) (by rw [e]; exact FRE_t hW hf hs hh) (fun x z hx hz sx sz q => ?_) u h3
        rw [e] at hx hz
        by_cases ex : x = nA w - (k + 1)
        · by_cases ez : z = nA w - (k + 1)
          · rw [ex, ez]
          · rw [ex, upd_eq, upd_ne _ _ ez] at q
            exact absurd q.symm (fre z (by omega) sz)
        · by_cases ez : z = nA w - (k + 1)
          · rw [ez, upd_eq, upd_ne _ _ ex] at q
            exact absurd q (fre x (by omega) sx)
          · rw [upd_ne _ _ ex, upd_ne _ _ ez] at q
            exact hi x z (by omega) (by omega) sx sz q
      · rw [if_neg c] at h3
        exact absurd h3 (by simp)
theorem HL_inj (hW : WF w) (y : Nat) {u : UU} {B : List UU} (h : HL w y = u :: B) : INJ w u (nA w) := by
  refine sols_inj hW y (nA w) (2 ^ nH w - 1) (ua w (nA w)) (Nat.le_refl _) (fun i hi => ?_) (fun x z hx => absurd hx (by omega)) u ?_
  · rw [Nat.testBit_two_pow_sub_one, decide_eq_true hi]
    exact ⟨fun _ x hx => absurd hx (by omega), fun _ => rfl⟩
  · have h' : sols w y (nA w) (2 ^ nH w - 1) (ua w (nA w)) = u :: B := h
    rw [h']
    exact List.mem_cons_self
/-- who gets the hat of x: the reference's, the class's -/
def tN (w : W_) (u : UU) (x : Nat) : Int32 := if (st w x && wh w x) = true then ff (fun p => st w p && decide (u p = w (40 + 6 * x + 5))) (nA w) 0 else -1
def cN (w : W_) (u : UU) (x : Nat) : Int32 := if (st w x && wh w x) = true then ff (fun p => (st w p && wh w p) && decide (u p = w (40 + 6 * x + 5))) (nA w) 0 else -1
theorem X_cov_s (hC : CC D w) (hW : WF w) {x : Nat} (hx : x < nA w) : g_HatSearch_isCovered D (nI x) = some (b01 (st w x && wh w x)) := by
  have h8 := wf_A8 hW
  unfold g_HatSearch_isCovered
  rw [C_seat_s hC hW hx, ob_some, b01_if, rk_in (show x < 8 by omega) (by decide), nI_clamp (by omega), c_30 hC hx]
  unfold wh
  cases st w x
  · rfl
  · rw [if_pos rfl, Bool.true_and]
    by_cases c : w (40 + 6 * x + 5) = -1
    · rw [if_pos c, decide_eq_false (fun z => z c)]
      rfl
    · rw [if_neg c, decide_eq_true c]
      rfl
theorem X_nextOf_s (hF : 1000 ≤ F) (hC : CC D w) (hW : WF w) {u : UU} (hu : ∀ x, x < nA w → st w x = true → D 52 x = u x) {x : Nat} (hx : x < nA w) : g_HatSearch_nextOf F D (nI x) = some (cN w u x) := by
  have h8 := wf_A8 hW
  unfold g_HatSearch_nextOf cN
  rw [X_cov_s hC hW hx, ob_some, b01_if]
  by_cases c : (st w x && wh w x) = true
  · rw [if_pos c, if_pos c]
    refine lff0 _ (fun f p => g_HatSearch_nextOf_12 F D f (nI x) (nI p)) (n := nA w) (by omega) (fun f p hp => ?_) (fun f => ?_)
    · rw [s_HatSearch_nextOf_12]
      unfold b_HatSearch_nextOf_12
      rw [c_24 hC, wf_A hW, if_neg (nI_ge hp (by omega)), X_cov_s hC hW hp, ob_some, b01_if, rk_in (show p < 8 by omega) (by decide), rk_in (show x < 8 by omega) (by decide), nI_clamp (by omega), nI_clamp (by omega), c_30 hC hx, nI_add]
      by_cases q : (st w p && wh w p) = true
      · have sp : st w p = true := by
          rw [Bool.and_eq_true] at q
          exact q.1
        rw [if_pos q, hu p hp sp, q, Bool.true_and]
        by_cases e : u p = w (40 + 6 * x + 5)
        · rw [if_pos e, if_pos (decide_eq_true e)]
        · rw [if_neg e, if_neg (fun z => e (of_decide_eq_true z))]
      · rw [if_neg q, Bool.eq_false_iff.mpr q, Bool.false_and, if_neg (by decide)]
    · rw [s_HatSearch_nextOf_12]
      unfold b_HatSearch_nextOf_12
      rw [c_24 hC, wf_A hW, if_pos (nI_le (Nat.le_refl _) (by omega))]
  · rw [if_neg c, if_neg c]
theorem M_gets_s (hF : 1000 ≤ F) (h7 : D 117 = w) (hW : WF w) {u : UU} (hu : ∀ x, x < nA w → D 132 x = u x) {x : Nat} (hx : x < nA w) : g_M_getsHatOf F D (nI x) = some (tN w u x) := by
  have h8 := wf_A8 hW
  unfold g_M_getsHatOf tN
  rw [M_sits_s D (by omega), ob_some, b01_if, M_of_s D (by omega) (by decide), ob_some, h7]
  unfold wh
  cases hs : st w x
  · rw [if_neg (show ¬ false = true by decide), Bool.false_and, if_neg (by decide)]
  · rw [if_pos rfl, Bool.true_and]
    by_cases c : w (40 + 6 * x + 5) = -1
    · rw [if_pos c, if_neg (show ¬ decide (¬ w (40 + 6 * x + 5) = -1) = true from fun z => absurd c (of_decide_eq_true z))]
    · rw [if_neg c, if_pos (decide_eq_true c)]
      refine lff0 _ (fun f p => g_M_getsHatOf_22 F D f (nI x) (nI p)) (n := nA w) (by omega) (fun f p hp => ?_) (fun f => ?_)
      · rw [s_M_getsHatOf_22]
        unfold b_M_getsHatOf_22
        rw [h7, wf_A hW, if_neg (nI_ge hp (by omega)), M_sits_s D (by omega), ob_some, b01_if, rk_in (show p < 8 by omega) (by decide), nI_clamp (by omega), M_of_s D (by omega) (by decide), ob_some, h7, hu p hp, nI_add]
        cases sp : st w p
        · rw [if_neg (show ¬ false = true by decide), Bool.false_and, if_neg (by decide)]
        · rw [if_pos rfl, Bool.true_and]
          by_cases e : u p = w (40 + 6 * x + 5)
          · rw [if_pos e, if_pos (decide_eq_true e)]
          · rw [if_neg e, if_neg (fun z => e (of_decide_eq_true z))]
      · rw [s_M_getsHatOf_22]
        unfold b_M_getsHatOf_22
        rw [h7, wf_A hW, if_pos (nI_le (Nat.le_refl _) (by omega))]
/-- the two nexts, side by side -/
theorem tc_c {u : UU} (hi : INJ w u (nA w)) (x : Nat) : (tN w u x = -1 ∧ cN w u x = -1) ∨ ∃ p, p < nA w ∧ tN w u x = nI p ∧ st w p = true ∧ ((wh w p = true ∧ cN w u x = nI p) ∨ (wh w p = false ∧ cN w u x = -1)) := by
  unfold tN cN
  by_cases c : (st w x && wh w x) = true
  · rw [if_pos c, if_pos c]
    rcases ff_sp (fun p => st w p && decide (u p = w (40 + 6 * x + 5))) (nA w) 0 with ⟨h1, h2⟩ | ⟨p, -, h2, h3, h4, h5⟩
    · rcases ff_sp (fun p => (st w p && wh w p) && decide (u p = w (40 + 6 * x + 5))) (nA w) 0 with ⟨g1, -⟩ | ⟨q, -, g2, g3, -, -⟩
      · exact Or.inl ⟨h1, g1⟩
      · have := h2 q (Nat.zero_le q) g2
        simp only [Bool.and_eq_true] at g3
        rw [g3.1.1, g3.2] at this
        exact absurd this (by decide)
    · right
      simp only [Bool.and_eq_true, decide_eq_true_eq] at h3
      refine ⟨p, by omega, h5, h3.1, ?_⟩
      rcases ff_sp (fun p => (st w p && wh w p) && decide (u p = w (40 + 6 * x + 5))) (nA w) 0 with ⟨g1, g2⟩ | ⟨q, -, g2, g3, g4, g5⟩
      · right
        refine ⟨?_, g1⟩
        have := g2 p (Nat.zero_le p) h2
        rw [h3.1, decide_eq_true h3.2, Bool.and_true, Bool.true_and] at this
        exact this
      · left
        simp only [Bool.and_eq_true, decide_eq_true_eq] at g3
        have e := hi p q (by omega) (by omega) h3.1 g3.1.1 (h3.2.trans g3.2.symm)
        rw [e]
        exact ⟨g3.1.2, g5⟩
  · rw [if_neg c, if_neg c]
    exact Or.inl ⟨rfl, rfl⟩
end RG
