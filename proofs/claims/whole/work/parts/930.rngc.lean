/-! ===== rings: the class's, the reference's ===== -/
section RC
variable {F : Nat} {D : mx_D} {E : mx_E} {w : W_}
def T_ (w : W_) (u : UU) : Nat → Nat := tT (nA w) (tN w u)
def val (y : Nat) : Int32 := if y = 9 then -1 else nI y
theorem tN_c (u : UU) (x : Nat) : tN w u x = -1 ∨ ∃ p, p < nA w ∧ tN w u x = nI p := by
  unfold tN
  by_cases c : (st w x && wh w x) = true
  · rw [if_pos c]
    rcases ff_sp (fun p => st w p && decide (u p = w (40 + 6 * x + 5))) (nA w) 0 with ⟨h1, -⟩ | ⟨p, -, h2, -, -, h5⟩
    · exact Or.inl h1
    · exact Or.inr ⟨p, by omega, h5⟩
  · rw [if_neg c]
    exact Or.inl rfl
theorem T_out (u : UU) {x : Nat} (h : nA w ≤ x) : T_ w u x = 9 := if_neg (by omega)
theorem T_no {u : UU} {x : Nat} (h : tN w u x = -1) : T_ w u x = 9 := by
  unfold T_ tT
  by_cases c : x < nA w
  · rw [if_pos c, if_pos h]
  · rw [if_neg c]
theorem T_yes (hW : WF w) {u : UU} {x p : Nat} (hx : x < nA w) (hp : p < nA w) (h : tN w u x = nI p) : T_ w u x = p := by
  have h8 := wf_A8 hW
  unfold T_ tT
  rw [if_pos hx, h, if_neg (nI_m1 (by omega)), nI_clamp (by omega)]
theorem T_c (hW : WF w) (u : UU) (x : Nat) : T_ w u x < nA w ∨ T_ w u x = 9 := by
  rcases Nat.lt_or_ge x (nA w) with hx | hx
  · rcases tN_c (w := w) u x with h | ⟨p, hp, h⟩
    · exact Or.inr (T_no h)
    · exact Or.inl (by rw [T_yes hW hx hp h]; exact hp)
  · exact Or.inr (T_out u hx)
theorem T_9 (hW : WF w) (u : UU) : T_ w u 9 = 9 := T_out u (by have := wf_A8 hW; omega)
theorem tN_val (hW : WF w) {u : UU} {x : Nat} (hx : x < nA w) : tN w u x = val (T_ w u x) := by
  have h8 := wf_A8 hW
  unfold val
  rcases tN_c (w := w) u x with h | ⟨p, hp, h⟩
  · rw [T_no h, if_pos rfl, h]
  · rw [T_yes hW hx hp h, if_neg (by omega), h]
theorem no9 (hW : WF w) {u : UU} {s m i : Nat} (hs : s < nA w) (h : rgm (T_ w u) s m) (hi : i < m) : T_ w u (rT (T_ w u) s i) ≠ 9 := fun e => by
  have h8 := wf_A8 hW
  by_cases c : i + 1 < m
  · have := rgm_in (T_c hW u) h8 (T_9 hW u) hs h (i + 1) c
    rw [rT_s, e] at this
    omega
  · have em : i + 1 = m := by omega
    have := h.2.1
    rw [← em, rT_s, e] at this
    omega
theorem X_ring_s (hF : 1000 ≤ F) (hC : CC D w) (hW : WF w) {u : UU} (hi : INJ w u (nA w)) (hu : ∀ x, x < nA w → st w x = true → D 52 x = u x) {s : Nat} (hs : s < nA w) : ∀ k j f, j + k = 8 → k < f → rT (T_ w u) s j < nA w → (∀ i, 0 < i → i ≤ j → s < rT (T_ w u) s i) → ∃ v, g_HatSearch_ringFrom_4 F D f (nI s) (nI (rT (T_ w u) s j)) (nI (j + 1)) = some (nI v) ∧ RV (T_ w u) s v ∧ v ≤ 8
  | 0, j, f, hj, hf, hx, hg => by
    obtain ⟨f, rfl⟩ : ∃ g, f = g + 1 := ⟨f - 1, by omega⟩
    have h8 := wf_A8 hW
    obtain rfl : j = 8 := by omega
    refine ⟨0, ?_, Or.inr ⟨rfl, fun m m2 hm _ => ?_⟩, Nat.zero_le _⟩
    · rw [s_HatSearch_ringFrom_4]
      unfold b_HatSearch_ringFrom_4
      rw [if_pos (by decide)]
    · have b := (rgm_8 (T_c hW u) h8 (T_9 hW u) hs hm).1
      have := hg m hm.1 b
      rw [hm.2.1] at this
      omega
  | k + 1, j, f, hj, hf, hx, hg => by
    obtain ⟨f, rfl⟩ : ∃ g, f = g + 1 := ⟨f - 1, by omega⟩
    have h8 := wf_A8 hW
    have later : ∀ m, rgm (T_ w u) s m → j < m := fun m hm => by
      rcases Nat.lt_or_ge j m with q | q
      · exact q
      · have := hg m hm.1 q
        rw [hm.2.1] at this
        omega
    rw [s_HatSearch_ringFrom_4]
    unfold b_HatSearch_ringFrom_4
    rw [if_neg (nI_nlt (by omega) (by omega)), X_nextOf_s hF hC hW hu hx, ob_some]
    have m1 : ¬ nI s ≤ (-1 : Int32) := fun z => by
      rw [Int32.le_iff_toInt_le, nI_toInt (by omega)] at z
      have : (-1 : Int32).toInt = -1 := by decide
      omega
    rcases tc_c hi (rT (T_ w u) s j) with ⟨t1, t2⟩ | ⟨p, hp, t1, sp, t2⟩
    · rw [t2, if_neg m1]
      exact ⟨0, rfl, Or.inr ⟨rfl, fun m _ hm _ => no9 hW hs hm (later m hm) (T_no t1)⟩, Nat.zero_le _⟩
    · have tp := T_yes hW hx hp t1
      have rp : rT (T_ w u) s (j + 1) = p := tp
      rcases t2 with ⟨cp, t2⟩ | ⟨cp, t2⟩
      · rw [t2]
        by_cases c1 : p < s
        · rw [if_neg (nI_ge c1 (by omega))]
          refine ⟨0, rfl, Or.inr ⟨rfl, fun m _ hm hl => ?_⟩, Nat.zero_le _⟩
          have := later m hm
          by_cases e : m = j + 1
          · have e1 := hm.2.1
            rw [e, rp] at e1
            omega
          · have := hl (j + 1) (by omega)
            rw [rp] at this
            omega
        · rw [if_pos (nI_le (by omega) (by omega))]
          by_cases c2 : p = s
          · have hr : rgm (T_ w u) s (j + 1) := ⟨Nat.succ_pos j, by rw [rp, c2], fun i i0 i1 e => by
              have := hg i i0 (by omega)
              omega⟩
            rw [if_pos (by rw [c2])]
            by_cases c3 : j = 0
            · rw [if_pos (nI_le (by omega) (by decide))]
              refine ⟨0, rfl, Or.inr ⟨rfl, fun m m2 hm _ => ?_⟩, Nat.zero_le _⟩
              have := rgm_u hm hr
              omega
            · rw [if_neg (nI_ge (by omega) (by omega))]
              refine ⟨j + 1, rfl, Or.inl ⟨by omega, hr, fun i hi' => ?_⟩, by omega⟩
              by_cases i0 : i = 0
              · rw [i0]
                exact Nat.le_refl s
              · have := hg i (by omega) (by omega)
                omega
          · rw [if_neg (fun z => c2 ((nI_eq (by omega) (by omega)).mp z)), nI_add, ← rp]
            exact X_ring_s hF hC hW hi hu hs k (j + 1) f (by omega) (by omega) (by rw [rp]; exact hp) (fun i i0 i1 => by
              by_cases e : i = j + 1
              · rw [e, rp]
                omega
              · exact hg i i0 (by omega))
      · rw [t2, if_neg m1]
        refine ⟨0, rfl, Or.inr ⟨rfl, fun m _ hm _ => ?_⟩, Nat.zero_le _⟩
        have hno : T_ w u p = 9 := T_no (by
          unfold tN
          rw [cp, Bool.and_false, if_neg (by decide)])
        have := later m hm
        by_cases e : m = j + 1
        · have e1 := hm.2.1
          rw [e, rp] at e1
          exact no9 hW hs hm hm.1 (by
            show T_ w u s = 9
            rw [← e1, hno])
        · exact no9 hW hs hm (show j + 1 < m by omega) (by rw [rp, hno])
end RC
