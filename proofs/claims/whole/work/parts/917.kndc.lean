/-! ===== kinds: the class sorts, and fills group by group ===== -/
section KC
variable {D : mx_D} {E : mx_E} {w : W_} {F : Nat}
theorem sg_ins (g : Nat → Int) (v : Int) : ∀ n a, a ≤ n → sg (n + 1) (fun j => if j < a then g j else if j = a then v else g (j - 1)) = sg n g + v := by
  intro n
  induction n with
  | zero =>
    intro a ha
    obtain rfl : a = 0 := by omega
    show (0 : Int) + (if 0 < 0 then g 0 else if 0 = 0 then v else g (0 - 1)) = 0 + v
    rw [if_neg (by decide), if_pos rfl]
  | succ n ih =>
    intro a ha
    rw [sg_s]
    by_cases e : a = n + 1
    · subst e
      rw [if_neg (Nat.lt_irrefl _), if_pos rfl, sg_c (n + 1) (fun i hi => if_pos hi)]
    · rw [ih a (by omega), sg_s, if_neg (by omega), if_neg (by omega), show n + 1 - 1 = n from rfl]
      omega
/-- the heights sorted: of n who sit among the first a -/
def SRT (w : W_) (hs : Nat → Int) (D : mx_D) (a n : Nat) (H : Nat → Int) (π : Nat → Nat) : Prop :=
  (D 43 1 = nI n ∧ n ≤ a) ∧ (∀ j, j < n → D 44 j = iI (H j) ∧ H j = hs (π j) ∧ π j < a ∧ st w (π j) = true) ∧ (∀ i j, i ≤ j → j < n → H i ≤ H j) ∧ ∀ p : Nat → Int, sg n (fun j => p (π j)) = sg a (fun x => if st w x = true then p x else 0)
theorem G_sortIn_s (hF : 100 ≤ F) {n : Nat} (hn : n < 8) (h1 : D 43 1 = nI n) {H : Nat → Int} (h2 : ∀ j, j < n → D 44 j = iI (H j)) (hs : ∀ i j, i ≤ j → j < n → H i ≤ H j) (hb : ∀ j, j < n → -10000 < H j ∧ H j < 10000) {h : Int} (hh : -10000 < h ∧ h < 10000) : ∃ D' a, g_Groups_sortIn F (iI h) D = some D' ∧ (∀ c, c ≠ 43 → c ≠ 44 → D' c = D c) ∧ D' 43 1 = nI (n + 1) ∧ a ≤ n ∧ (∀ j, j < n + 1 → D' 44 j = iI (if j < a then H j else if j = a then h else H (j - 1))) ∧ (∀ j, j < a → H j ≤ h) ∧ ∀ j, a ≤ j → j < n → h ≤ H j := by
  have key : ∀ a0 f (s : mx_D), a0 ≤ n → a0 < f → (∀ c, c ≠ 44 → s c = D c) → (∀ j, j < a0 → s 44 j = iI (H j)) → (∀ j, a0 < j → j ≤ n → s 44 j = iI (H (j - 1))) → (∀ j, a0 ≤ j → j < n → h ≤ H j) → ∃ D' a, g_Groups_sortIn_15 F f (iI h) (nI a0) s = some D' ∧ (∀ c, c ≠ 43 → c ≠ 44 → D' c = D c) ∧ D' 43 1 = nI (n + 1) ∧ a ≤ n ∧ (∀ j, j < n + 1 → D' 44 j = iI (if j < a then H j else if j = a then h else H (j - 1))) ∧ (∀ j, j < a → H j ≤ h) ∧ ∀ j, a ≤ j → j < n → h ≤ H j := by
    intro a0
    have fin : ∀ (a f : Nat) (s : mx_D), a ≤ n → (∀ c, c ≠ 44 → s c = D c) → (∀ j, j < a → s 44 j = iI (H j)) → (∀ j, a < j → j ≤ n → s 44 j = iI (H (j - 1))) → (∀ j, a ≤ j → j < n → h ≤ H j) → (∀ j, j < a → H j ≤ h) → ∃ D', b_Groups_sortIn_51 F (iI h) (nI a) s = some D' ∧ (∀ c, c ≠ 43 → c ≠ 44 → D' c = D c) ∧ D' 43 1 = nI (n + 1) ∧ a ≤ n ∧ (∀ j, j < n + 1 → D' 44 j = iI (if j < a then H j else if j = a then h else H (j - 1))) ∧ (∀ j, j < a → H j ≤ h) ∧ ∀ j, a ≤ j → j < n → h ≤ H j := fun a f s ha i1 i2 i3 i4 i5 => by
      unfold b_Groups_sortIn_51
      refine ⟨_, by rw [rk_in (show a < 8 by omega) (by decide), nI_clamp (by omega), sD_ne _ _ _ _ (show 43 ≠ 44 by decide), i1 43 (by decide), h1, nI_add], fun c q1 q2 => by rw [sD_nr _ _ _ q1, sD_nr _ _ _ q2, i1 c q2], sD_eq _ _ _ _, ha, fun j hj => ?_, i5, i4⟩
      rw [sD_ne _ _ _ _ (show 44 ≠ 43 by decide)]
      by_cases c1 : j < a
      · rw [sD_nj _ _ _ (by omega), i2 j c1, if_pos c1]
      · by_cases c2 : j = a
        · subst c2
          rw [sD_eq, if_neg c1, if_pos rfl]
        · rw [sD_nj _ _ _ c2, i3 j (by omega) (by omega), if_neg c1, if_neg c2]
    induction a0 with
    | zero =>
      intro f s ha hf i1 i2 i3 i4
      obtain ⟨f, rfl⟩ : ∃ g, f = g + 1 := ⟨f - 1, by omega⟩
      obtain ⟨D', r1, r⟩ := fin 0 f s ha i1 i2 i3 i4 (fun j hj => absurd hj (Nat.not_lt_zero j))
      refine ⟨D', 0, ?_, r⟩
      rw [← r1]
      rw [s_Groups_sortIn_15]
      unfold b_Groups_sortIn_15
      rw [if_pos (by decide)]
    | succ a0 ih =>
      intro f s ha hf i1 i2 i3 i4
      obtain ⟨f, rfl⟩ : ∃ g, f = g + 1 := ⟨f - 1, by omega⟩
      have hb0 := hb a0 (by omega)
      have e0 := i2 a0 (Nat.lt_succ_self a0)
      have cmp : iI (H a0) ≤ iI h ↔ H a0 ≤ h := iI_le (by omega) (by omega) (by omega) (by omega)
      have e1 : g_Groups_sortIn_15 F (f + 1) (iI h) (nI (a0 + 1)) s = if H a0 ≤ h then b_Groups_sortIn_51 F (iI h) (nI (a0 + 1)) s else g_Groups_sortIn_15 F f (iI h) (nI a0) (sD s 44 (a0 + 1) (iI (H a0))) := by
        rw [s_Groups_sortIn_15]
        unfold b_Groups_sortIn_15
        have em : nI (a0 + 1) + (-1 : Int32) = nI a0 := by
          rw [iI_nI, iI_m1, iI_add, iI_nI]
          congr 1
          omega
        rw [if_neg (nI_nle (by omega) (by omega)), nI_subN (by omega), show a0 + 1 - 1 = a0 from rfl, rk_in (show a0 < 8 by omega) (by decide), nI_clamp (by omega), e0]
        by_cases c : H a0 ≤ h
        · rw [if_pos (cmp.mpr c), if_pos c]
        · rw [if_neg (fun q => c (cmp.mp q)), if_neg c, rk_in (show a0 < 8 by omega) (by decide), rk_in (show a0 + 1 < 8 by omega) (by decide), nI_clamp (by omega), em]
      rw [e1]
      by_cases c : H a0 ≤ h
      · rw [if_pos c]
        obtain ⟨D', r1, r⟩ := fin (a0 + 1) f s ha i1 i2 i3 i4 (fun j hj => Int.le_trans (hs j a0 (by omega) (by omega)) c)
        exact ⟨D', a0 + 1, r1, r⟩
      · rw [if_neg c]
        refine ih f _ (by omega) (by omega) (fun c hc => by rw [sD_nr _ _ _ hc, i1 c hc]) (fun j hj => by rw [sD_nj _ _ _ (by omega)]; exact i2 j (by omega)) (fun j q1 q2 => ?_) (fun j q1 q2 => ?_)
        · by_cases e : j = a0 + 1
          · subst e
            rw [sD_eq]
            rfl
          · rw [sD_nj _ _ _ e]
            exact i3 j (by omega) q2
        · by_cases e : j = a0
          · rw [e]
            omega
          · exact i4 j (by omega) q2
  unfold g_Groups_sortIn
  rw [h1, if_pos (nI_lt hn (by decide))]
  exact key n F D (Nat.le_refl n) (by omega) (fun _ _ => rfl) h2 (fun j q1 q2 => by omega) (fun j q1 q2 => by omega)
theorem G_take_s (hF : 100 ≤ F) (hC : CC D w) (hW : WF w) {y : Nat} (hy : y ≤ 30) : ∃ D' n H π, g_Groups_take F (nI y) D = some D' ∧ (∀ c, c ≠ 43 → c ≠ 44 → D' c = D c) ∧ SRT w (bod w y) D' (nA w) n H π := by
  have h8 := wf_A8 hW
  unfold g_Groups_take
  obtain ⟨r, r1, r2, n, H, π, r3⟩ := lp0 (F := F) (s := sD D 43 1 (nI 0)) (fun a (s : mx_D) => (∀ c, c ≠ 43 → c ≠ 44 → s c = D c) ∧ ∃ n H π, SRT w (bod w y) s a n H π) (fun s => (∀ c, c ≠ 43 → c ≠ 44 → s c = D c) ∧ ∃ n H π, SRT w (bod w y) s (nA w) n H π) (fun f a s => g_Groups_take_7 F f (nI y) (nI a) s) (n := nA w) (by omega) ⟨fun c q1 _ => sD_nr _ _ _ q1, 0, fun _ => 0, fun _ => 0, ⟨⟨sD_eq _ _ _ _, Nat.le_refl 0⟩, fun j hj => absurd hj (Nat.not_lt_zero j), fun i j _ hj => absurd hj (Nat.not_lt_zero j), fun _ => rfl⟩⟩ (fun f a s ha hI => by
    obtain ⟨i1, n, H, π, ⟨j1, j0⟩, j2, j3, j4⟩ := hI
    have hCs : CC s w := CC_of hC (fun c hc => i1 c (by omega) (by omega))
    have hba := bod_b hW ha hy
    have hb : ∀ j, j < n → -10000 < H j ∧ H j < 10000 := fun j hj => by
      obtain ⟨-, q2, q3, -⟩ := j2 j hj
      have := bod_b hW (x := π j) (by omega) hy
      omega
    show ∃ s', _ ∧ g_Groups_take_7 F (f + 1) (nI y) (nI a) s = g_Groups_take_7 F f (nI y) (nI (a + 1)) s'
    rw [s_Groups_take_7]
    unfold b_Groups_take_7
    rw [c_24 hCs, wf_A hW, if_neg (nI_ge ha (by omega)), C_seat_s hCs hW ha, ob_some, nI_add]
    cases hst : st w a
    · rw [if_pos zb0]
      refine ⟨s, ⟨i1, n, H, π, ⟨j1, by omega⟩, fun j hj => ?_, j3, fun p => ?_⟩, rfl⟩
      · obtain ⟨q1, q2, q3, q4⟩ := j2 j hj
        exact ⟨q1, q2, by omega, q4⟩
      · rw [j4 p, sg_s, hst, if_neg (by decide), Int.add_zero]
    · rw [if_neg zb1, C_standing_s hF hCs hW ha, ob_some]
      obtain ⟨D', b, d1, d2, d3, d4, d5, d6, d7⟩ := G_sortIn_s (D := s) hF (show n < 8 by omega) j1 (fun j hj => (j2 j hj).1) j3 hb (h := bod w y a) (by omega)
      rw [d1, ob_some]
      refine ⟨D', ⟨fun c q1 q2 => by rw [d2 c q1 q2, i1 c q1 q2], n + 1, fun j => if j < b then H j else if j = b then bod w y a else H (j - 1), fun j => if j < b then π j else if j = b then a else π (j - 1), ⟨d3, by omega⟩, fun j hj => ?_, fun i j hij hj => ?_, fun p => ?_⟩, rfl⟩
      · refine ⟨d5 j hj, ?_⟩
        dsimp only
        by_cases c1 : j < b
        · obtain ⟨q1, q2, q3, q4⟩ := j2 j (by omega)
          rw [if_pos c1, if_pos c1]
          exact ⟨q2, by omega, q4⟩
        · rw [if_neg c1, if_neg c1]
          by_cases c2 : j = b
          · rw [if_pos c2, if_pos c2]
            exact ⟨rfl, by omega, hst⟩
          · rw [if_neg c2, if_neg c2]
            obtain ⟨q1, q2, q3, q4⟩ := j2 (j - 1) (by omega)
            exact ⟨q2, by omega, q4⟩
      · dsimp only
        by_cases i1' : i < b
        · rw [if_pos i1']
          by_cases c1 : j < b
          · rw [if_pos c1]
            exact j3 i j hij (by omega)
          · rw [if_neg c1]
            by_cases c2 : j = b
            · rw [if_pos c2]
              exact d6 i i1'
            · rw [if_neg c2]
              exact j3 i (j - 1) (by omega) (by omega)
        · rw [if_neg i1', if_neg (show ¬ j < b by omega)]
          by_cases i2' : i = b
          · rw [if_pos i2']
            by_cases c2 : j = b
            · rw [if_pos c2]
              exact Int.le_refl _
            · rw [if_neg c2]
              exact d7 (j - 1) (by omega) (by omega)
          · rw [if_neg i2', if_neg (show ¬ j = b by omega)]
            exact j3 (i - 1) (j - 1) (by omega) (by omega)
      · have ea : sg (a + 1) (fun x => if st w x = true then p x else 0) = sg a (fun x => if st w x = true then p x else 0) + p a := by rw [sg_s, hst, if_pos rfl]
        rw [ea, ← j4 p, ← sg_ins (fun j => p (π j)) (p a) n b d4]
        refine sg_c _ (fun j _ => ?_)
        dsimp only
        by_cases c1 : j < b
        · rw [if_pos c1, if_pos c1]
        · rw [if_neg c1, if_neg c1]
          by_cases c2 : j = b
          · rw [if_pos c2, if_pos c2]
          · rw [if_neg c2, if_neg c2]) (fun f s hI => by
    refine ⟨s, ?_, hI⟩
    have hCs : CC s w := CC_of hC (fun c hc => hI.1 c (by omega) (by omega))
    show g_Groups_take_7 F (f + 1) (nI y) _ s = _
    rw [s_Groups_take_7]
    unfold b_Groups_take_7
    rw [c_24 hCs, wf_A hW, if_pos (nI_le (Nat.le_refl _) (by omega))])
  exact ⟨r, n, H, π, r1, r2, r3⟩
theorem iv_sum {n : Nat} (hn : n ≤ 8) (c : Nat → Nat) (k : Nat) : sg 8 (fun j => if (iv 0 n).testBit j = true ∧ c j = k then (1 : Int) else 0) = sg n (fun j => if c j = k then 1 else 0) := by
  rw [show 8 = n + (8 - n) by omega, sg_app]
  have e2 : sg (8 - n) (fun j => if (iv 0 n).testBit (n + j) = true ∧ c (n + j) = k then (1 : Int) else 0) = sg (8 - n) (fun _ => 0) := sg_c _ (fun j _ => if_neg (fun z => by have := iv_tb.mp z.1; omega))
  rw [e2, sg_0, Int.add_zero]
  refine sg_c n (fun j hj => ?_)
  by_cases h : c j = k
  · rw [if_pos h, if_pos ⟨iv_tb.mpr ⟨Nat.zero_le j, hj⟩, h⟩]
  · rw [if_neg h, if_neg (fun z => h z.2)]
theorem sM_sum (hW : WF w) (c : Nat → Nat) (k : Nat) : sg 8 (fun x => if (sM w).testBit x = true ∧ c x = k then (1 : Int) else 0) = sg (nA w) (fun x => if st w x = true then (if c x = k then 1 else 0) else 0) := by
  have h8 := wf_A8 hW
  have tb : ∀ x, (sM w).testBit x = (decide (x < nA w) && st w x) := fun x => mk_tb _ _ _
  rw [show 8 = nA w + (8 - nA w) by omega, sg_app]
  have e2 : sg (8 - nA w) (fun j => if (sM w).testBit (nA w + j) = true ∧ c (nA w + j) = k then (1 : Int) else 0) = sg (8 - nA w) (fun _ => 0) := sg_c _ (fun j _ => if_neg (fun z => by have := sub_sM w _ z.1; omega))
  rw [e2, sg_0, Int.add_zero]
  refine sg_c _ (fun x hx => ?_)
  rw [tb, decide_eq_true hx, Bool.true_and]
  cases st w x
  · rw [if_neg (fun z => absurd z.1 (by decide)), if_neg (by decide)]
  · rw [if_pos (show true = true from rfl)]
    by_cases h : c x = k
    · rw [if_pos h, if_pos ⟨rfl, h⟩]
    · rw [if_neg h, if_neg (fun z => h z.2)]
/-- groups of those who sit, groups of their places in the row -/
theorem col_pos (hW : WF w) {hs : Nat → Int} {n : Nat} {H : Nat → Int} {π : Nat → Nat} (h : SRT w hs D (nA w) n H π) {L P : Int} (K : Nat) : col hs L P (sM w) K ↔ col H L P (iv 0 n) K := by
  have h8 := wf_A8 hW
  obtain ⟨⟨-, hn⟩, h2, -, h4⟩ := h
  have inS : ∀ j, j < n → (sM w).testBit (π j) = true := fun j hj => by
    obtain ⟨-, -, q3, q4⟩ := h2 j hj
    have tb : (sM w).testBit (π j) = (decide (π j < nA w) && st w (π j)) := mk_tb _ _ _
    rw [tb, decide_eq_true q3, q4]
    rfl
  -- one place each
  have one : ∀ x, (sM w).testBit x = true → sg n (fun j => if π j = x then (1 : Int) else 0) = 1 := fun x hx => by
    have e := h4 (fun z => if z = x then 1 else 0)
    have tb : (sM w).testBit x = (decide (x < nA w) && st w x) := mk_tb _ _ _
    rw [tb, Bool.and_eq_true] at hx
    have e2 : sg (nA w) (fun z => if st w z = true then (if z = x then (1 : Int) else 0) else 0) = sg (nA w) (fun z => if z = x then 1 else 0) := sg_c _ (fun z _ => by
      by_cases c : z = x
      · rw [if_pos c, c, if_pos hx.2]
      · rw [if_neg c]
        split <;> rfl)
    rw [e2, sg_one, if_pos (of_decide_eq_true hx.1)] at e
    exact e
  have inj : ∀ i j, i < n → j < n → π i = π j → i = j := fun i j hi hj e => by
    by_cases c : i = j
    · exact c
    · exfalso
      have q := one (π j) (inS j hj)
      have g : sg n (fun z => (if z = i then (1 : Int) else 0) + (if z = j then 1 else 0)) ≤ sg n (fun z => if π z = π j then (1 : Int) else 0) := sg_mono n (fun z _ => by
        by_cases c1 : z = i
        · rw [if_pos c1, if_neg (by omega), c1, if_pos e]
          decide
        · rw [if_neg c1]
          by_cases c2 : z = j
          · rw [if_pos c2, c2, if_pos rfl]
            decide
          · rw [if_neg c2]
            split <;> decide)
      rw [sg_add, sg_one, sg_one, if_pos hi, if_pos hj, q] at g
      exact absurd g (by decide)
  constructor
  · rintro ⟨c, h1', h2', h3'⟩
    refine ⟨fun j => c (π j), fun j hj => h1' _ (inS j (iv_tb.mp hj).2), fun i j hi hj e => ?_, fun k => ?_⟩
    · have hi' := (iv_tb.mp hi).2
      have hj' := (iv_tb.mp hj).2
      rw [(h2 i hi').2.1, (h2 j hj').2.1]
      exact h2' _ _ (inS i hi') (inS j hj') e
    · rw [iv_sum (by omega) (fun j => c (π j)) k, h4 (fun x => if c x = k then 1 else 0), ← sM_sum hW c k]
      exact h3' k
  · rintro ⟨c, h1', h2', h3'⟩
    -- where one stands in the row
    have fd : ∀ x, (sM w).testBit x = true → ∃ j, j < n ∧ π j = x ∧ (ff (fun j => decide (π j = x)) n 0).toNatClampNeg = j := fun x hx => by
      rcases ff_sp (fun j => decide (π j = x)) n 0 with ⟨z1, z2⟩ | ⟨j, z1, z2, z3, z4, z5⟩
      · exfalso
        obtain ⟨j, j1, j2⟩ := sg_ex (f := fun j => if π j = x then (1 : Int) else 0) (n := n) (by rw [one x hx]; decide)
        have := z2 j (Nat.zero_le j) (by omega)
        rw [if_neg (of_decide_eq_false this)] at j2
        exact absurd j2 (by decide)
      · exact ⟨j, by omega, of_decide_eq_true z3, by rw [z5, nI_clamp (by omega)]⟩
    have fp : ∀ j, j < n → (ff (fun i => decide (π i = π j)) n 0).toNatClampNeg = j := fun j hj => by
      obtain ⟨i, i1, i2, i3⟩ := fd (π j) (inS j hj)
      rw [i3]
      exact inj i j i1 hj i2
    refine ⟨fun x => c ((ff (fun j => decide (π j = x)) n 0).toNatClampNeg), fun x hx => ?_, fun x y hx hy e => ?_, fun k => ?_⟩
    · obtain ⟨i, i1, i2, i3⟩ := fd x hx
      dsimp only
      rw [i3]
      exact h1' i (iv_tb.mpr ⟨Nat.zero_le i, i1⟩)
    · obtain ⟨i, i1, i2, i3⟩ := fd x hx
      obtain ⟨j, j1, j2, j3⟩ := fd y hy
      dsimp only at e
      rw [i3, j3] at e
      have := h2' i j (iv_tb.mpr ⟨Nat.zero_le i, i1⟩) (iv_tb.mpr ⟨Nat.zero_le j, j1⟩) e
      rw [(h2 i i1).2.1, (h2 j j1).2.1, i2, j2] at this
      exact this
    · rw [sM_sum hW (fun x => c ((ff (fun j => decide (π j = x)) n 0).toNatClampNeg)) k, ← h4 (fun x => if c ((ff (fun j => decide (π j = x)) n 0).toNatClampNeg) = k then 1 else 0)]
      have e : sg n (fun j => if c ((ff (fun i => decide (π i = π j)) n 0).toNatClampNeg) = k then (1 : Int) else 0) = sg n (fun j => if c j = k then 1 else 0) := sg_c n (fun j hj => by rw [fp j hj])
      rw [e, ← iv_sum (by omega) c k]
      exact h3' k
theorem bc_iv {s i : Nat} (h : s ≤ i) (hi : i ≤ 8) : (bc (iv s i) : Int) = (i : Int) - s := by
  rw [bc_sg]
  have e : sg 8 (fun j => if (iv s i).testBit j = true then (1 : Int) else 0) = sg 8 (fun j => if (s : Int) ≤ (j : Int) ∧ (j : Int) ≤ (i : Int) - 1 then 1 else 0) := sg_c 8 (fun j _ => by
    by_cases c : (iv s i).testBit j = true
    · have := iv_tb.mp c
      rw [if_pos c, if_pos (by omega)]
    · rw [if_neg c, if_neg (fun z => c (iv_tb.mpr ⟨by omega, by omega⟩))])
  rw [e, sg_rng]
  omega
theorem G_fewest_s (hF : 100 ≤ F) {n p : Nat} (hn : n ≤ 8) (hp : 0 < p) (hp2 : p ≤ 5) (h1 : D 43 1 = nI n) {H : Nat → Int} (h2 : ∀ j, j < n → D 44 j = iI (H j)) (hs : ∀ i j, i ≤ j → j < n → H i ≤ H j) (hb : ∀ j, j < n → -10000 < H j ∧ H j < 10000) {L : Int} (hL : 0 ≤ L) (hL2 : L ≤ 100000) : ∃ v, g_Groups_fewest F D (iI L) (nI p) = some (nI v) ∧ v ≤ 8 ∧ gv H L p (iv 0 n) v := by
  unfold g_Groups_fewest
  -- a row that is not empty wants a group
  have pos : ∀ s K, s < n → col H L p (iv s n) K → 0 < K := fun s K hs' ⟨c, hc, _⟩ => Nat.lt_of_le_of_lt (Nat.zero_le _) (hc s (iv_tb.mpr ⟨Nat.le_refl s, hs'⟩))
  have nxt : ∀ {s i f : Nat}, s < i → i ≤ n → (i : Int) - s ≤ p → (∀ j, s ≤ j → j < i → H j - H s ≤ L) → col H L p (iv 0 s) f → col H L p (iv 0 i) (f + 1) := fun {s i f} h1 h2 h3 h4 h5 => by
    refine ADD (T := iv s i) h5 (by rw [bc_iv (by omega) (by omega)]; exact h3) (fun x y hx hy => ?_) (fun x hx => ?_) (fun x hx => ?_)
    · have hx' := iv_tb.mp hx
      have hy' := iv_tb.mp hy
      have := h4 x hx'.1 hx'.2
      have := hs s y hy'.1 (by omega)
      omega
    · have := iv_tb.mp hx
      by_cases c : x < s
      · exact Or.inl (iv_tb.mpr ⟨Nat.zero_le x, c⟩)
      · exact Or.inr (iv_tb.mpr ⟨by omega, this.2⟩)
    · have := iv_tb.mp hx
      cases ht : (iv s i).testBit x
      · rfl
      · have := iv_tb.mp ht
        omega
  have c00 : ∀ n, n = 0 → col H L p (iv 0 n) 0 := fun n hn0 => by
    subst hn0
    have no : ∀ x, ¬ (iv 0 0).testBit x = true := fun x hx => by have := iv_tb.mp hx; omega
    exact ⟨fun _ => 0, fun x hx => absurd hx (no x), fun x y hx => absurd hx (no x), fun k => by
      have : sg 8 (fun x => if (iv 0 0).testBit x = true ∧ 0 = k then (1 : Int) else 0) = sg 8 (fun _ => 0) := sg_c 8 (fun x _ => if_neg (fun z => no x z.1))
      rw [this, sg_0]
      exact Int.natCast_nonneg _⟩
  obtain ⟨r, r1, v, r2, r3, r4⟩ := lp0 (F := F) (s := ((0, 0, 0) : Nat × Nat × Int)) (fun i (s : Nat × Nat × Int) => (s.1 = 0 ∧ i = 0 ∧ s.2.1 = 0 ∧ s.2.2 = 0) ∨ (0 < s.1 ∧ s.1 ≤ i ∧ ∃ t, t < i ∧ s.2.1 = i - t ∧ s.2.2 = H t ∧ (i : Int) - t ≤ p ∧ (∀ j, t ≤ j → j < i → H j - H t ≤ L) ∧ col H L p (iv 0 t) (s.1 - 1) ∧ ∀ K, col H L p (iv 0 n) K → s.1 ≤ K ∧ col H L p (iv t n) (K - (s.1 - 1)))) (fun (r : Int32) => ∃ v, r = nI v ∧ v ≤ 8 ∧ gv H L p (iv 0 n) v) (fun f i s => g_Groups_fewest_11 F D f (iI L) (nI p) (nI s.1) (nI s.2.1) (iI s.2.2) (nI i)) (n := n) (by omega) (Or.inl ⟨rfl, rfl, rfl, rfl⟩) (fun f i s hi hI => by
    obtain ⟨fo, g, ℓ⟩ := s
    dsimp only at hI
    show ∃ s' : Nat × Nat × Int, _ ∧ g_Groups_fewest_11 F D (f + 1) (iI L) (nI p) (nI fo) (nI g) (iI ℓ) (nI i) = g_Groups_fewest_11 F D f (iI L) (nI p) (nI s'.1) (nI s'.2.1) (iI s'.2.2) (nI (i + 1))
    have hbi := hb i hi
    have e44 : b_Groups_fewest_44 F D (g_Groups_fewest_11 F D f) (iI L) (nI p) (nI fo) (nI i) = g_Groups_fewest_11 F D f (iI L) (nI p) (nI (fo + 1)) (nI 1) (iI (H i)) (nI (i + 1)) := by
      unfold b_Groups_fewest_44
      rw [rk_in (by omega) (by decide), nI_clamp (by omega), h2 i hi, nI_add, nI_add, nI_add]
    rw [s_Groups_fewest_11]
    unfold b_Groups_fewest_11
    rw [h1, if_neg (nI_ge hi (by omega)), e44, rk_in (show i < 8 by omega) (by decide), nI_clamp (by omega), h2 i hi, iI_sub, nI_add, nI_add]
    rcases hI with ⟨i1, i2, i3, i4⟩ | ⟨i1, i2, t, i3, i4, i5, i6, i7, i8, i9⟩
    · rw [i1, if_pos z0]
      subst i2
      refine ⟨(1, 1, H 0), Or.inr ⟨Nat.one_pos, Nat.le_refl 1, 0, Nat.one_pos, rfl, rfl, by omega, fun j q1 q2 => ?_, c00 0 rfl, fun K hK => ⟨pos 0 K hi hK, hK⟩⟩, rfl⟩
      rw [show j = 0 by omega]
      omega
    · have hbt := hb t (by omega)
      rw [if_neg (fun e => by have := (nI_z fo (by omega)).mp e; omega)]
      -- a new group begins
      have new : (i = t + p ∨ L < H i - H t) → ∃ s' : Nat × Nat × Int, ((s'.1 = 0 ∧ i + 1 = 0 ∧ s'.2.1 = 0 ∧ s'.2.2 = 0) ∨ (0 < s'.1 ∧ s'.1 ≤ i + 1 ∧ ∃ t, t < i + 1 ∧ s'.2.1 = i + 1 - t ∧ s'.2.2 = H t ∧ ((i + 1 : Nat) : Int) - t ≤ p ∧ (∀ j, t ≤ j → j < i + 1 → H j - H t ≤ L) ∧ col H L p (iv 0 t) (s'.1 - 1) ∧ ∀ K, col H L p (iv 0 n) K → s'.1 ≤ K ∧ col H L p (iv t n) (K - (s'.1 - 1)))) ∧ g_Groups_fewest_11 F D f (iI L) (nI p) (nI (fo + 1)) (nI 1) (iI (H i)) (nI (i + 1)) = g_Groups_fewest_11 F D f (iI L) (nI p) (nI s'.1) (nI s'.2.1) (iI s'.2.2) (nI (i + 1)) := fun brk => by
        refine ⟨(fo + 1, 1, H i), Or.inr ⟨Nat.succ_pos fo, by dsimp only; omega, i, Nat.lt_succ_self i, by dsimp only; omega, rfl, by omega, fun j q1 q2 => ?_, ?_, fun K hK => ?_⟩, rfl⟩
        · rw [show j = i by omega]
          omega
        · have := nxt i3 (by omega) i6 i7 i8
          dsimp only
          rw [show fo - 1 + 1 = fo + 1 - 1 by omega] at this
          exact this
        · obtain ⟨k1, c, k2⟩ := i9 K hK
          have nn : 0 ≤ sg 8 (fun j => if (iv i n).testBit j = true ∧ c j = c t then (1 : Int) else 0) := sg_nn 8 (fun j _ => by split <;> decide)
          have ex := EXL (p := p) rfl hn hs i3 (by omega) (Or.inr brk) i7 hL (sg 8 (fun j => if (iv i n).testBit j = true ∧ c j = c t then (1 : Int) else 0)).toNat c k2 (by omega)
          have kp := pos i _ hi ex
          dsimp only
          refine ⟨by omega, ?_⟩
          rw [show K - (fo + 1 - 1) = K - (fo - 1) - 1 by omega]
          exact ex
      by_cases c1 : p ≤ g
      · rw [if_pos (nI_le c1 (by omega))]
        exact new (Or.inl (by omega))
      · rw [if_neg (nI_ge (by omega) (by omega)), i5]
        have cmp : iI (H i - H t) ≤ iI L ↔ H i - H t ≤ L := iI_le (by omega) (by omega) (by omega) (by omega)
        by_cases c2 : H i - H t ≤ L
        · rw [if_pos (cmp.mpr c2)]
          have hg1 : g + 1 = i + 1 - t := by
            rw [Nat.sub_add_comm (Nat.le_of_lt i3), ← show g = i - t from i4]
          have hg2 : ((i + 1 : Nat) : Int) - t ≤ p := by
            have : g < p := by omega
            omega
          refine ⟨(fo, g + 1, H t), Or.inr ⟨i1, Nat.le_succ_of_le i2, t, Nat.lt_succ_of_lt i3, hg1, rfl, hg2, fun j q1 q2 => ?_, i8, i9⟩, rfl⟩
          by_cases e : j = i
          · rw [e]
            exact c2
          · exact i7 j q1 (by omega)
        · rw [if_neg (fun q => c2 (cmp.mp q))]
          exact new (Or.inr (by omega))) (fun f s hI => by
    obtain ⟨fo, g, ℓ⟩ := s
    dsimp only at hI
    refine ⟨nI fo, ?_, fo, rfl, ?_, ?_⟩
    · show g_Groups_fewest_11 F D (f + 1) (iI L) (nI p) (nI fo) (nI g) (iI ℓ) (nI n) = _
      rw [s_Groups_fewest_11]
      unfold b_Groups_fewest_11
      rw [h1, if_pos (nI_le (Nat.le_refl n) (by omega))]
    · rcases hI with ⟨i1, -⟩ | ⟨-, i2, -⟩ <;> omega
    · rcases hI with ⟨i1, i2, -, -⟩ | ⟨i1, i2, t, i3, i4, i5, i6, i7, i8, i9⟩
      · rw [i1]
        exact ⟨c00 n i2, fun K _ => Nat.zero_le K⟩
      · have := nxt i3 (Nat.le_refl n) i6 i7 i8
        rw [show fo - 1 + 1 = fo by omega] at this
        exact ⟨this, fun K hK => (i9 K hK).1⟩)
  exact ⟨v, by rw [← r2]; exact r1, r3, r4⟩
/-- the questions -/
def GW (w : W_) (y : Nat) (L : Int) (v : Nat) : Prop := gv (bod w y) L (nL w) (sM w) v
theorem gv_u {hs : Nat → Int} {L P : Int} {S a b : Nat} (h : gv hs L P S a) (h' : gv hs L P S b) : a = b := Nat.le_antisymm (h.2 b h'.1) (h'.2 a h.1)
theorem SRT_gv (hW : WF w) {y n : Nat} {H : Nat → Int} {π : Nat → Nat} (h : SRT w (bod w y) D (nA w) n H π) {L : Int} {v : Nat} (hv : gv H L (nL w) (iv 0 n) v) : GW w y L v :=
  ⟨(col_pos hW h v).mpr hv.1, fun K hK => hv.2 K ((col_pos hW h K).mp hK)⟩
theorem op_kinds (hF : 20000 ≤ F) (h : RL D E) (a : Int32) : ∃ r D1 D2, g_X_kinds F a D = some (r, D1) ∧ g_M_kinds F a D1 = some (r, D2) ∧ RL D2 E := by
  have hW := h.1
  have hC := h.2.2.1
  unfold g_X_kinds
  rw [X_canAsk_s hC hW, b01_if]
  rcases yr_c (D 117) a with q | ⟨y, hy, rfl, hP, q⟩
  · rw [q, if_neg (by decide)]
    refine ⟨_, D, D, rfl, ?_, h⟩
    unfold g_M_kinds
    rw [M_isYear_s hW, b01_if, q, if_neg (by decide)]
  · rw [q, if_pos rfl]
    have h8 := wf_A8 hW
    have h5 := wf_L5 hW
    have hv := wf_V30 hW
    have hL := (wf_PL hW).mp hP
    obtain ⟨A, n, H, π, a1, a2, a3⟩ := G_take_s (F := F) (by omega) hC hW hy
    have cA : CC A (D 117) := CC_of hC (fun c hc => a2 c (by omega) (by omega))
    have hFX : FX D A := fun c hc => a2 c (by omega) (by omega)
    have e117 : A 117 = D 117 := hFX 117 (by omega)
    have hb : ∀ j, j < n → -10000 < H j ∧ H j < 10000 := fun j hj => by
      obtain ⟨-, q2, q3, -⟩ := a3.2.1 j hj
      have := bod_b hW q3 hy
      omega
    obtain ⟨v, v1, v2, v3⟩ := G_fewest_s (D := A) (F := F) (by omega) (show n ≤ 8 by have := a3.1.2; omega) hL h5 a3.1.1 (fun j hj => (a3.2.1 j hj).1) a3.2.2.1 hb (L := (nV (D 117) : Int)) (by omega) (by omega)
    have g1 := SRT_gv hW a3 v3
    obtain ⟨M, m1, m2, m3⟩ := M_layB_s (D := A) (F := F) (by omega) (by rw [e117]; exact hW) y
    have eM : M 117 = D 117 := (m2 117 (by decide)).trans e117
    obtain ⟨v', N, n1, n2, n3, n4⟩ := M_kindsBy_s (D := M) (F := F) (by omega) (by rw [eM]; exact hW) (hs := bod (D 117) y) (by rw [eM, ← e117]; rw [e117] at m3 ⊢; exact m3) (by rw [eM]; exact fun x hx => by have := bod_b hW hx hy; omega) (by rw [eM]; exact hL) (L := (nV (D 117) : Int)) (by omega) (by omega)
    rw [eM] at n4
    obtain rfl := gv_u g1 n4
    have hFM : FM A N := by
      have f : ∀ c, c ≠ 123 → c ≠ 133 → N c = A c := fun c q1 q2 => by rw [n2 c q2, m2 c q1]
      have f116 := f 116 (by decide) (by decide)
      exact ⟨fun c hc => f c (by omega) (by omega), ⟨f _ (by decide) (by decide), f _ (by decide) (by decide), f _ (by decide) (by decide), f _ (by decide) (by decide), f _ (by decide) (by decide), f _ (by decide) (by decide)⟩, by rw [f116], by rw [f116], by rw [f116]⟩
    rw [a1, ob_some, c_2 cA, c_1 cA, wf_V hW, wf_L hW, iI_nI (nV (D 117)), v1, ob_some]
    refine ⟨_, A, N, rfl, ?_, RL_q h (FR_XM hFX hFM) (fun _ _ _ => rfl)⟩
    unfold g_M_kinds
    rw [M_isYear_s (by rw [e117]; exact hW), b01_if, e117, q, if_pos rfl, m1, ob_some, eM, wf_V hW, iI_nI (nV (D 117)), n1, ob_some]
theorem op_wide (hF : 20000 ≤ F) (h : RL D E) (a b : Int32) : ∃ r D1 D2, g_X_wide F a b D = some (r, D1) ∧ g_M_wide F a b D1 = some (r, D2) ∧ RL D2 E := by
  have hW := h.1
  have hC := h.2.2.1
  unfold g_X_wide
  rw [X_canAsk_s hC hW, b01_if]
  rcases yr_c (D 117) a with q | ⟨y, hy, rfl, hP, q⟩
  · rw [q, if_neg (by decide)]
    refine ⟨_, D, D, rfl, ?_, h⟩
    unfold g_M_wide
    rw [M_isYear_s hW, b01_if, q, if_neg (by decide)]
  · rw [q, if_pos rfl]
    by_cases hb0 : 0 ≤ b
    · rw [if_pos hb0]
      obtain ⟨m, hm, rfl⟩ := nI_of (x := b) (fun z => by
        rw [Int32.le_iff_toInt_le] at hb0
        rw [Int32.lt_iff_toInt_lt] at z
        omega)
      have h8 := wf_A8 hW
      have h5 := wf_L5 hW
      have hL := (wf_PL hW).mp hP
      obtain ⟨A, n, H, π, a1, a2, a3⟩ := G_take_s (F := F) (by omega) hC hW hy
      have cA : CC A (D 117) := CC_of hC (fun c hc => a2 c (by omega) (by omega))
      have hFX : FX D A := fun c hc => a2 c (by omega) (by omega)
      have e117 : A 117 = D 117 := hFX 117 (by omega)
      have n8 : n ≤ 8 := by have := a3.1.2; omega
      have hbb : ∀ j, j < n → 100 ≤ H j ∧ H j ≤ 700 := fun j hj => by
        obtain ⟨-, q2, q3, -⟩ := a3.2.1 j hj
        have := bod_b hW q3 hy
        omega
      have few : ∀ L : Nat, L ≤ 1000 → ∃ v, g_Groups_fewest F A (nI L) (nI (nL (D 117))) = some (nI v) ∧ v ≤ 8 ∧ GW (D 117) y L v := fun L hL' => by
        obtain ⟨v, v1, v2, v3⟩ := G_fewest_s (D := A) (F := F) (by omega) n8 hL h5 a3.1.1 (fun j hj => (a3.2.1 j hj).1) a3.2.2.1 (fun j hj => by have := hbb j hj; omega) (L := (L : Int)) (by omega) (by omega)
        exact ⟨v, by rw [iI_nI L]; exact v1, v2, SRT_gv hW a3 v3⟩
      -- the widest
      obtain ⟨W, w1, w2, w3⟩ : ∃ W : Nat, W ≤ 600 ∧ g_Groups_widest A = some (nI W) ∧ ∀ x y', x < n → y' < n → H x - H y' ≤ W := by
        unfold g_Groups_widest
        rw [a3.1.1]
        by_cases c : n = 0
        · subst c
          exact ⟨0, by decide, by rw [if_pos z0], fun x y' hx => absurd hx (Nat.not_lt_zero x)⟩
        · have b0 := hbb 0 (by omega)
          have b1 := hbb (n - 1) (by omega)
          have b2 := a3.2.2.1 0 (n - 1) (Nat.zero_le _) (by omega)
          refine ⟨(H (n - 1) - H 0).toNat, by omega, ?_, fun x y' hx hy' => ?_⟩
          · rw [if_neg (fun e => c ((nI_z n (by omega)).mp e)), nI_subN (by omega), rk_in (show n - 1 < 8 by omega) (by decide), nI_clamp (by omega), (a3.2.1 (n - 1) (by omega)).1, (a3.2.1 0 (by omega)).1, iI_sub, iI_nI]
            congr 2
            omega
          · have := a3.2.2.1 x (n - 1) (by omega) (by omega)
            have := a3.2.2.1 0 y' (Nat.zero_le _) hy'
            omega
      rw [a1, ob_some, w2, ob_some]
      -- wider than the widest is the widest
      have wid : ∀ (L v : Nat), W ≤ L → GW (D 117) y L v → GW (D 117) y W v := fun L v hWL hg => by
        have sw : ∀ K, col H L (nL (D 117)) (iv 0 n) K ↔ col H W (nL (D 117)) (iv 0 n) K := fun K => by
          constructor
          · rintro ⟨c, c1, c2, c3⟩
            exact ⟨c, c1, fun x y' hx hy' _ => w3 x y' (iv_tb.mp hx).2 (iv_tb.mp hy').2, c3⟩
          · rintro ⟨c, c1, c2, c3⟩
            exact ⟨c, c1, fun x y' hx hy' e => by have := c2 x y' hx hy' e; omega, c3⟩
        exact ⟨(col_pos hW a3 v).mpr ((sw v).mp ((col_pos hW a3 v).mp hg.1)), fun K hK => hg.2 K ((col_pos hW a3 K).mpr ((sw K).mpr ((col_pos hW a3 K).mp hK)))⟩
      -- the class's search
      obtain ⟨r, r1, r2⟩ : ∃ r, g_X_wide_38 F F (nI m) (nI W) (nI 0) A = some (r, A) ∧ ((∃ L, L ≤ W ∧ r = nI L ∧ (∃ v, GW (D 117) y L v ∧ v ≤ m) ∧ ∀ L' : Nat, L' < L → ∃ v, GW (D 117) y L' v ∧ m < v) ∨ (r = -1 ∧ ∀ L' : Nat, L' ≤ W → ∃ v, GW (D 117) y L' v ∧ m < v)) := by
        obtain ⟨r, r1, r2, r3⟩ := lp (fun k (_ : Unit) => ∀ L' : Nat, L' < k → ∃ v, GW (D 117) y L' v ∧ m < v) (fun (r : Int32 × mx_D) => r.2 = A ∧ ((∃ L, L ≤ W ∧ r.1 = nI L ∧ (∃ v, GW (D 117) y L v ∧ v ≤ m) ∧ ∀ L' : Nat, L' < L → ∃ v, GW (D 117) y L' v ∧ m < v) ∨ (r.1 = -1 ∧ ∀ L' : Nat, L' ≤ W → ∃ v, GW (D 117) y L' v ∧ m < v))) (fun f k _ => g_X_wide_38 F f (nI m) (nI W) (nI k) A) (W + 1) (fun f k s hk hI => by
          obtain ⟨v, v1, v2, v3⟩ := few k (by omega)
          show (∃ r, g_X_wide_38 F (f + 1) (nI m) (nI W) (nI k) A = some r ∧ _) ∨ ∃ s' : Unit, _ ∧ g_X_wide_38 F (f + 1) (nI m) (nI W) (nI k) A = g_X_wide_38 F f (nI m) (nI W) (nI (k + 1)) A
          rw [s_X_wide_38]
          unfold b_X_wide_38
          rw [if_neg (nI_nlt (by omega) (by omega)), c_1 cA, wf_L hW, v1, ob_some, nI_add]
          by_cases c : v ≤ m
          · rw [if_neg (nI_nlt c hm)]
            exact Or.inl ⟨_, rfl, rfl, Or.inl ⟨k, by omega, rfl, ⟨v, v3, c⟩, hI⟩⟩
          · rw [if_pos (nI_lt (by omega) (by omega))]
            refine Or.inr ⟨(), fun L' hL' => ?_, rfl⟩
            by_cases e : L' = k
            · rw [e]
              exact ⟨v, v3, by omega⟩
            · exact hI L' (by omega)) (fun f s hI => by
          refine ⟨(-1, A), ?_, rfl, Or.inr ⟨rfl, fun L' hL' => hI L' (by omega)⟩⟩
          show g_X_wide_38 F (f + 1) (nI m) (nI W) (nI (W + 1)) A = _
          rw [s_X_wide_38]
          unfold b_X_wide_38
          rw [if_pos (nI_lt (by omega) (by omega))]) (W + 1) F 0 () (by omega) (by omega) (fun L' hL' => absurd hL' (Nat.not_lt_zero L'))
        exact ⟨r.1, r1.trans (congrArg some (Prod.ext rfl r2)), r3⟩
      rw [r1]
      -- the reference's
      obtain ⟨M, m1, m2, m3⟩ := M_layB_s (D := A) (F := F) (by omega) (by rw [e117]; exact hW) y
      have eM : M 117 = D 117 := (m2 117 (by decide)).trans e117
      obtain ⟨r', N, s1, s2, s3⟩ : ∃ r' N, g_M_wide_22 F F (nI m) (nI 0) M = some (r', N) ∧ (∀ c, c ≠ 133 → N c = M c) ∧ ((∃ L, L ≤ 1000 ∧ r' = nI L ∧ (∃ v, GW (D 117) y L v ∧ v ≤ m) ∧ ∀ L' : Nat, L' < L → ∃ v, GW (D 117) y L' v ∧ m < v) ∨ (r' = -1 ∧ ∀ L' : Nat, L' ≤ 1000 → ∃ v, GW (D 117) y L' v ∧ m < v)) := by
        obtain ⟨r, r1, r2, r3⟩ := lp (fun k (s : mx_D) => (∀ c, c ≠ 133 → s c = M c) ∧ ∀ L' : Nat, L' < k → ∃ v, GW (D 117) y L' v ∧ m < v) (fun (r : Int32 × mx_D) => (∀ c, c ≠ 133 → r.2 c = M c) ∧ ((∃ L, L ≤ 1000 ∧ r.1 = nI L ∧ (∃ v, GW (D 117) y L v ∧ v ≤ m) ∧ ∀ L' : Nat, L' < L → ∃ v, GW (D 117) y L' v ∧ m < v) ∨ (r.1 = -1 ∧ ∀ L' : Nat, L' ≤ 1000 → ∃ v, GW (D 117) y L' v ∧ m < v))) (fun f k s => g_M_wide_22 F f (nI m) (nI k) s) 1001 (fun f k s hk hI => by
          have es : s 117 = D 117 := (hI.1 117 (by decide)).trans eM
          obtain ⟨v, N, n1, n2, n3, n4⟩ := M_kindsBy_s (D := s) (F := F) (by omega) (by rw [es]; exact hW) (hs := bod (D 117) y) (by rw [es]; rw [e117] at m3; exact fun x hx => by rw [hI.1 123 (by decide)]; exact m3 x hx) (by rw [es]; exact fun x hx => by have := bod_b hW hx hy; omega) (by rw [es]; exact hL) (L := (k : Int)) (by omega) (by omega)
          rw [es] at n4
          show (∃ r, g_M_wide_22 F (f + 1) (nI m) (nI k) s = some r ∧ _) ∨ ∃ s', _ ∧ g_M_wide_22 F (f + 1) (nI m) (nI k) s = g_M_wide_22 F f (nI m) (nI (k + 1)) s'
          rw [s_M_wide_22]
          unfold b_M_wide_22
          have ek : nI k = iI (k : Int) := iI_nI k
          rw [if_neg (nI_nlt (by omega) (by omega)), nI_add, ek, n1, ob_some, ← ek]
          have fN : ∀ c, c ≠ 133 → N c = M c := fun c hc => by rw [n2 c hc, hI.1 c hc]
          by_cases c : v ≤ m
          · rw [if_neg (nI_nlt c hm)]
            exact Or.inl ⟨_, rfl, fN, Or.inl ⟨k, by omega, rfl, ⟨v, n4, c⟩, hI.2⟩⟩
          · rw [if_pos (nI_lt (by omega) (by omega))]
            refine Or.inr ⟨N, ⟨fN, fun L' hL' => ?_⟩, rfl⟩
            by_cases e : L' = k
            · rw [e]
              exact ⟨v, n4, by omega⟩
            · exact hI.2 L' (by omega)) (fun f s hI => by
          refine ⟨(-1, s), ?_, hI.1, Or.inr ⟨rfl, fun L' hL' => hI.2 L' (by omega)⟩⟩
          show g_M_wide_22 F (f + 1) (nI m) (nI 1001) s = _
          rw [s_M_wide_22]
          unfold b_M_wide_22
          rw [if_pos (by decide)]) 1001 F 0 M (by omega) (by omega) ⟨fun _ _ => rfl, fun L' hL' => absurd hL' (Nat.not_lt_zero L')⟩
        exact ⟨r.1, r.2, r1, r2, r3⟩
      have hFM : FM A N := by
        have f : ∀ c, c ≠ 123 → c ≠ 133 → N c = A c := fun c q1 q2 => by rw [s2 c q2, m2 c q1]
        have f116 := f 116 (by decide) (by decide)
        exact ⟨fun c hc => f c (by omega) (by omega), ⟨f _ (by decide) (by decide), f _ (by decide) (by decide), f _ (by decide) (by decide), f _ (by decide) (by decide), f _ (by decide) (by decide), f _ (by decide) (by decide)⟩, by rw [f116], by rw [f116], by rw [f116]⟩
      have no : ∀ {L v v' : Nat}, GW (D 117) y L v → GW (D 117) y L v' → v ≤ m → m < v' → False := fun g g' q1 q2 => by
        have := gv_u g g'
        omega
      have er : r = r' := by
        rcases r2 with ⟨L, l1, rfl, ⟨v, l2, l3⟩, l4⟩ | ⟨rfl, l4⟩
        · rcases s3 with ⟨L', k1, rfl, ⟨v', k2, k3⟩, k4⟩ | ⟨rfl, k4⟩
          · congr 1
            rcases Nat.lt_trichotomy L L' with z | z | z
            · obtain ⟨u, u1, u2⟩ := k4 L z
              exact absurd (no l2 u1 l3 u2) id
            · exact z
            · obtain ⟨u, u1, u2⟩ := l4 L' z
              exact absurd (no k2 u1 k3 u2) id
          · obtain ⟨u, u1, u2⟩ := k4 L (by omega)
            exact absurd (no l2 u1 l3 u2) id
        · rcases s3 with ⟨L', k1, rfl, ⟨v', k2, k3⟩, k4⟩ | ⟨rfl, k4⟩
          · by_cases c : L' ≤ W
            · obtain ⟨u, u1, u2⟩ := l4 L' c
              exact absurd (no k2 u1 k3 u2) id
            · obtain ⟨u, u1, u2⟩ := l4 W (Nat.le_refl W)
              exact absurd (no (wid L' v' (by omega) k2) u1 k3 u2) id
          · rfl
      refine ⟨r, A, N, rfl, ?_, RL_q h (FR_XM hFX hFM) (fun _ _ _ => rfl)⟩
      unfold g_M_wide
      rw [M_isYear_s (by rw [e117]; exact hW), b01_if, e117, q, if_pos rfl, if_pos hb0, m1, ob_some, s1, er]
    · rw [if_neg hb0]
      refine ⟨_, D, D, rfl, ?_, h⟩
      unfold g_M_wide
      rw [M_isYear_s hW, b01_if, q, if_pos rfl, if_neg hb0]
end KC
