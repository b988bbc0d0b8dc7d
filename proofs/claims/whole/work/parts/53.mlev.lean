/-! ===== the reference: heights laid, how far apart, level ===== -/
section MV
variable {F : Nat} {D : mx_D}
def sub (m n : Nat) : Prop := ∀ x, m.testBit x = true → x < n
theorem sub_256 {m n : Nat} (h : sub m n) (hn : n ≤ 8) : m < 256 := by
  apply Nat.lt_pow_two_of_testBit (n := 8)
  intro i hi
  cases hb : m.testBit i
  · rfl
  · have := h i hb
    omega
theorem sub_and_l {a b n : Nat} (h : sub a n) : sub (a &&& b) n := fun x hx => by
  rw [Nat.testBit_and, Bool.and_eq_true] at hx
  exact h x hx.1
theorem sub_and_r {a b n : Nat} (h : sub b n) : sub (a &&& b) n := fun x hx => by
  rw [Nat.testBit_and, Bool.and_eq_true] at hx
  exact h x hx.2
theorem sub_mk (p : Nat → Bool) (n : Nat) : sub (mk p n) n := fun x hx => by
  rw [mk_tb, Bool.and_eq_true] at hx
  exact of_decide_eq_true hx.1
theorem tb_8 {m x : Nat} (hm : m < 256) (hx : m.testBit x = true) : x < 8 := by
  rcases Nat.lt_or_ge x 8 with h | h
  · exact h
  · have := Nat.testBit_lt_two_pow (x := m) (i := x) (Nat.lt_of_lt_of_le hm (Nat.pow_le_pow_right (n := 2) (by decide) h))
    rw [this] at hx
    cases hx
theorem bc_lt2 : ∀ m, m < 256 → bc m < 2 → m = 0 ∨ ∃ x, x < 8 ∧ m = 2 ^ x := by
  have : ∀ m, m < 256 → (decide (bc m < 2) && !(decide (m = 0) || (List.range 8).any (fun x => decide (m = 2 ^ x)))) = false := by decide +kernel
  intro m hm hb
  have h := this m hm
  rw [decide_eq_true hb, Bool.true_and, Bool.not_eq_false', Bool.or_eq_true, decide_eq_true_eq, List.any_eq_true] at h
  rcases h with h | ⟨x, hx, h⟩
  · exact Or.inl h
  · exact Or.inr ⟨x, List.mem_range.mp hx, of_decide_eq_true h⟩
theorem bc_8 : ∀ m, m < 256 → bc m ≤ 8 := by decide +kernel
/-- the lowest, the tallest: whatever is begun with -/
theorem lo_eq {hs : Nat → Int} {m n n' : Nat} {B B' : Int} (h0 : m ≠ 0) (h1 : sub m n) (h2 : sub m n') (hb : ∀ x, m.testBit x = true → hs x < B ∧ hs x < B') : lo hs m n B = lo hs m n' B' := by
  obtain ⟨i, hi⟩ := Nat.exists_testBit_of_ne_zero h0
  obtain ⟨a1, a2, a3⟩ := lo_le hs m B n
  obtain ⟨b1, b2, b3⟩ := lo_le hs m B' n'
  have c1 := a2 i (h1 i hi) hi
  have c2 := b2 i (h2 i hi) hi
  have c3 := hb i hi
  rcases a3 with a3 | ⟨x, -, hx, a3⟩
  · omega
  · rcases b3 with b3 | ⟨z, -, hz, b3⟩
    · omega
    · have := a2 z (h1 z hz) hz
      have := b2 x (h2 x hx) hx
      omega
theorem tp_eq {hs : Nat → Int} {m n n' : Nat} {B B' : Int} (h0 : m ≠ 0) (h1 : sub m n) (h2 : sub m n') (hb : ∀ x, m.testBit x = true → B < hs x ∧ B' < hs x) : tp hs m n B = tp hs m n' B' := by
  obtain ⟨i, hi⟩ := Nat.exists_testBit_of_ne_zero h0
  obtain ⟨a1, a2, a3⟩ := tp_ge hs m B n
  obtain ⟨b1, b2, b3⟩ := tp_ge hs m B' n'
  have c1 := a2 i (h1 i hi) hi
  have c2 := b2 i (h2 i hi) hi
  have c3 := hb i hi
  rcases a3 with a3 | ⟨x, -, hx, a3⟩
  · omega
  · rcases b3 with b3 | ⟨z, -, hz, b3⟩
    · omega
    · have := a2 z (h1 z hz) hz
      have := b2 x (h2 x hx) hx
      omega
theorem spr_1 (hs : Nat → Int) {m : Nat} (hm : m < 256) (hb : ∀ x, m.testBit x = true → -10000 < hs x ∧ hs x < 10000) (h : bc m < 2) : spr hs m = 0 := by
  rcases bc_lt2 m hm h with rfl | ⟨x, hx, rfl⟩
  · rfl
  · have hbx : (2 ^ x).testBit x = true := by rw [Nat.testBit_two_pow]; simp
    have hone : ∀ y, (2 ^ x).testBit y = true → y = x := fun y hy => by
      rw [Nat.testBit_two_pow] at hy
      exact (of_decide_eq_true hy).symm
    have h0 : 2 ^ x ≠ 0 := fun e => by rw [e] at hbx; simp at hbx
    unfold spr
    rw [if_neg h0]
    obtain ⟨a1, a2, a3⟩ := lo_le hs (2 ^ x) 10000 8
    obtain ⟨b1, b2, b3⟩ := tp_ge hs (2 ^ x) (-10000) 8
    have q1 := a2 x hx hbx
    have q2 := b2 x hx hbx
    have q3 := hb x hbx
    rcases a3 with a3 | ⟨y, -, hy, a3⟩
    · omega
    · rcases b3 with b3 | ⟨z, -, hz, b3⟩
      · omega
      · rw [a3, b3, hone y hy, hone z hz]
        omega
theorem spr_u {hs : Nat → Int} {m : Nat} (hm : m < 256) (hb : ∀ x, m.testBit x = true → -10000 < hs x ∧ hs x < 10000) : 0 ≤ spr hs m ∧ spr hs m ≤ 20000 := by
  have hb' : ∀ x, x < 8 → m.testBit x = true → -10000 < hs x ∧ hs x < 10000 := fun x _ h => hb x h
  refine ⟨spr_0 hm hb', ?_⟩
  rw [spr_le hm hb' (by omega)]
  intro x y _ _ hx hy
  have := hb x hx
  have := hb y hy
  omega
theorem spr_c {hs hs' : Nat → Int} {m : Nat} (h : ∀ x, m.testBit x = true → hs x = hs' x) : spr hs m = spr hs' m := by
  have e1 : lo hs m 8 10000 = lo hs' m 8 10000 := fo_c 8 (fun i a _ => by
    by_cases hb : m.testBit i = true
    · rw [if_pos hb, if_pos hb, h i hb]
    · rw [if_neg hb, if_neg hb])
  have e2 : tp hs m 8 (-10000) = tp hs' m 8 (-10000) := fo_c 8 (fun i a _ => by
    by_cases hb : m.testBit i = true
    · rw [if_pos hb, if_pos hb, h i hb]
    · rw [if_neg hb, if_neg hb])
  unfold spr
  rw [e1, e2]
theorem M_lay_s (hF : 100 ≤ F) (h : WF (D 117)) (y : Nat) : ∃ D', g_M_lay F (nI y) D = some D' ∧ (∀ c, c ≠ 123 → D' c = D c) ∧ ∀ x, x < nA (D 117) → D' 123 x = iI (hi (D 117) y x) := by
  have h8 := wf_A8 h
  unfold g_M_lay
  refine lp0 (F := F) (fun a (s : mx_D) => (∀ c, c ≠ 123 → s c = D c) ∧ ∀ x, x < a → s 123 x = iI (hi (D 117) y x)) (fun D' => (∀ c, c ≠ 123 → D' c = D c) ∧ ∀ x, x < nA (D 117) → D' 123 x = iI (hi (D 117) y x)) (fun f a s => g_M_lay_2 F f (nI y) (nI a) s) (n := nA (D 117)) (by omega) ⟨fun _ _ => rfl, fun x hx => absurd hx (Nat.not_lt_zero x)⟩ (fun f a s ha hP => ?_) (fun f s hP => ?_)
  · refine ⟨sD s 123 a (iI (hi (D 117) y a)), ⟨fun c hc => ?_, fun x hx => ?_⟩, ?_⟩
    · rw [sD_nr s _ _ hc, hP.1 c hc]
    · by_cases e : x = a
      · subst e
        rw [sD_eq]
      · rw [sD_nj s _ _ e]
        exact hP.2 x (by omega)
    · have e := hP.1 117 (by decide)
      have hw : WF (s 117) := by rw [e]; exact h
      rw [s_M_lay_2]
      unfold b_M_lay_2
      rw [wf_A hw, e, if_neg (nI_ge ha (by omega)), M_highOf_s hF hw (by rw [e]; exact ha), ob_some, rk_in (by omega) (by decide), nI_clamp (by omega), nI_add, e]
  · refine ⟨s, ?_, hP⟩
    have e := hP.1 117 (by decide)
    have hw : WF (s 117) := by rw [e]; exact h
    rw [s_M_lay_2]
    unfold b_M_lay_2
    rw [wf_A hw, e, if_pos (nI_le (Nat.le_refl _) (by omega))]
theorem M_spreadOf_s (hF : 100 ≤ F) (h : WF (D 117)) {hs : Nat → Int} (hh : ∀ x, x < nA (D 117) → D 123 x = iI (hs x)) (hb : ∀ x, x < nA (D 117) → -10000 < hs x ∧ hs x < 10000) {m : Nat} (hm : sub m (nA (D 117))) : g_M_spreadOf F D (nI m) = some (iI (spr hs m)) := by
  have h8 := wf_A8 h
  have h256 := sub_256 hm h8
  have hbm : ∀ x, m.testBit x = true → -10000 < hs x ∧ hs x < 10000 := fun x hx => hb x (hm x hx)
  unfold g_M_spreadOf
  have e1 : nI 1000000 = iI (lo hs m 0 1000000) := rfl
  have e2 : (-1000000 : Int32) = iI (tp hs m 0 (-1000000)) := rfl
  rw [e1, e2]
  refine lu0 (fun f a => g_M_spreadOf_11 F D f (nI m) (iI (lo hs m a 1000000)) (iI (tp hs m a (-1000000))) (nI a)) (n := nA (D 117)) _ (by omega) (fun f a ha => ?_) (fun f => ?_)
  · rw [s_M_spreadOf_11]
    unfold b_M_spreadOf_11
    have l1 := lo_le hs m 1000000 a
    have t1 := tp_ge hs m (-1000000) a
    have b1 := hb a ha
    rw [wf_A h, if_neg (nI_ge ha (by omega)), nb_bit (by omega) (by omega), rk_in (by omega) (by decide), rk_in (by omega) (by decide), nI_clamp (by omega), hh a ha, nI_add]
    have el : lo hs m (a + 1) 1000000 = if m.testBit a then min (lo hs m a 1000000) (hs a) else lo hs m a 1000000 := rfl
    have et : tp hs m (a + 1) (-1000000) = if m.testBit a then max (tp hs m a (-1000000)) (hs a) else tp hs m a (-1000000) := rfl
    rw [el, et]
    have lb : -10000 < lo hs m a 1000000 ∧ lo hs m a 1000000 ≤ 1000000 := by
      refine ⟨?_, l1.1⟩
      rcases l1.2.2 with q | ⟨x, hx, hxb, q⟩
      · omega
      · have := hbm x hxb
        omega
    have tb : tp hs m a (-1000000) < 10000 ∧ -1000000 ≤ tp hs m a (-1000000) := by
      refine ⟨?_, t1.1⟩
      rcases t1.2.2 with q | ⟨x, hx, hxb, q⟩
      · omega
      · have := hbm x hxb
        omega
    cases hbt : m.testBit a
    · rw [if_pos (by rfl), if_neg (by decide), if_neg (by decide)]
    · rw [if_neg (by decide), if_pos rfl, if_pos rfl, imn_iI (by omega) (by omega) (by omega) (by omega), imx_iI (by omega) (by omega) (by omega) (by omega)]
  · rw [s_M_spreadOf_11]
    unfold b_M_spreadOf_11
    rw [wf_A h, if_pos (nI_le (Nat.le_refl _) (by omega))]
    unfold b_M_spreadOf_64
    have h9 := bc_8 m h256
    rw [M_bits_s hF h256, ob_some]
    by_cases hc : 2 ≤ bc m
    · rw [if_pos (nI_le hc (by omega)), iI_sub]
      have h0 : m ≠ 0 := fun e => by rw [e] at hc; revert hc; decide
      have hs8 : sub m 8 := fun x hx => tb_8 h256 hx
      unfold spr
      rw [if_neg h0, lo_eq (n' := 8) (B' := 10000) h0 hm hs8 (fun x hx => by have := hbm x hx; omega), tp_eq (n' := 8) (B' := -10000) h0 hm hs8 (fun x hx => by have := hbm x hx; omega)]
    · rw [if_neg (nI_ge (by omega) (by omega)), spr_1 hs h256 hbm (by omega)]
      rfl
theorem sub_pM (w : W_) (p : Nat) : sub (pM w p) (nA w) := sub_mk _ _
theorem sub_sM (w : W_) : sub (sM w) (nA w) := sub_mk _ _
theorem pM_0 {w : W_} (h : WF w) {p : Nat} (hp : nP w ≤ p) (hp2 : p < 2 ^ 31) : pM w p = 0 := by
  apply Nat.eq_of_testBit_eq
  intro i
  rw [Nat.zero_testBit]
  unfold pM
  rw [mk_tb]
  by_cases hi : i < nA w
  · rw [decide_eq_true hi, Bool.true_and]
    apply decide_eq_false
    intro e
    have h4 := wf_P4 h
    rcases wf_st h hi with q | q
    · rw [q.1] at e
      exact nI_m1 hp2 e.symm
    · rw [q.1] at e
      have := (nI_eq (by omega) hp2).mp e
      omega
  · rw [decide_eq_false hi]
    rfl
theorem apa_fo {w : W_} (h : WF w) (hs : Nat → Int) (m : Nat) : ∀ k, fo (fun p s => max s (spr hs (m &&& pM w p))) 0 (nP w + k) = fo (fun p s => max s (spr hs (m &&& pM w p))) 0 (nP w) ∨ 1000 < nP w + k := by
  intro k
  induction k with
  | zero => exact Or.inl rfl
  | succ k ih =>
    by_cases hk : 1000 < nP w + (k + 1)
    · exact Or.inr hk
    · rcases ih with ih | ih
      · left
        rw [← Nat.add_assoc, fo_s, ih, pM_0 h (by omega) (by omega), Nat.and_zero]
        have h0 : ∀ n, 0 ≤ fo (fun p s => max s (spr hs (m &&& pM w p))) 0 n := by
          intro n
          induction n with
          | zero => exact Int.le_refl 0
          | succ n ih =>
            rw [fo_s]
            omega
        have := h0 (nP w)
        show max _ (0 : Int) = _
        omega
      · omega
theorem M_unlevel_s (hF : 100 ≤ F) (h : WF (D 117)) {hs : Nat → Int} (hh : ∀ x, x < nA (D 117) → D 123 x = iI (hs x)) (hb : ∀ x, x < nA (D 117) → -10000 < hs x ∧ hs x < 10000) {m : Nat} (hm : sub m (nA (D 117))) : g_M_unlevel F D (nI m) = some (iI (apa hs (pM (D 117)) (ba (D 117)) m)) := by
  have h8 := wf_A8 h
  have h4 := wf_P4 h
  have h256 := sub_256 hm h8
  unfold g_M_unlevel apa ba
  by_cases hB : D 117 3 = nI 1
  · rw [if_pos hB, M_spreadOf_s hF h hh hb hm, ob_some, decide_eq_true hB, if_pos rfl]
  · rw [if_neg hB, decide_eq_false hB, if_neg (by decide)]
    have e := (apa_fo h hs m (4 - nP (D 117))).resolve_right (by omega)
    rw [show nP (D 117) + (4 - nP (D 117)) = 4 by omega] at e
    rw [e]
    have hb2 : ∀ n, 0 ≤ fo (fun p s => max s (spr hs (m &&& pM (D 117) p))) 0 n ∧ fo (fun p s => max s (spr hs (m &&& pM (D 117) p))) 0 n ≤ 20000 := by
      intro n
      induction n with
      | zero => exact ⟨Int.le_refl 0, (by decide : (0 : Int) ≤ 20000)⟩
      | succ n ih =>
        rw [fo_s]
        have := spr_u (hs := hs) (m := m &&& pM (D 117) n) (sub_256 (sub_and_l hm) h8) (fun x hx => hb x (sub_and_l hm x hx))
        omega
    refine lu0 (fun f p => g_M_unlevel_20 F D f (nI m) (iI (fo (fun p s => max s (spr hs (m &&& pM (D 117) p))) 0 p)) (nI p)) (n := nP (D 117)) _ (by omega) (fun f p hp => ?_) (fun f => ?_)
    · rw [s_M_unlevel_20]
      unfold b_M_unlevel_20
      have hu := spr_u (hs := hs) (m := m &&& pM (D 117) p) (sub_256 (sub_and_l hm) h8) (fun x hx => hb x (sub_and_l hm x hx))
      have h2 := hb2 p
      rw [wf_P h, if_neg (nI_ge hp (by omega)), M_inPew_s hF h, ob_some, nb_and, Nat.and_comm, M_spreadOf_s hF h hh hb (sub_and_l hm), ob_some, imx_iI (by omega) (by omega) (by omega) (by omega), nI_add, fo_s]
    · rw [s_M_unlevel_20]
      unfold b_M_unlevel_20
      rw [wf_P h, if_pos (nI_le (Nat.le_refl _) (by omega))]
/-- is it level in a year -/
def lev (w : W_) (y : Nat) : Bool := decide (apa (hi w y) (pM w) (ba w) (sM w) ≤ nV w)
theorem apa_b {hs : Nat → Int} {pm : Nat → Nat} {b : Bool} {m n : Nat} (hn : n ≤ 8) (hm : sub m n) (hb : ∀ x, x < n → -10000 < hs x ∧ hs x < 10000) : 0 ≤ apa hs pm b m ∧ apa hs pm b m ≤ 20000 := by
  unfold apa
  cases b
  · rw [if_neg (by decide)]
    have : ∀ k, 0 ≤ fo (fun p s => max s (spr hs (m &&& pm p))) 0 k ∧ fo (fun p s => max s (spr hs (m &&& pm p))) 0 k ≤ 20000 := by
      intro k
      induction k with
      | zero => exact ⟨Int.le_refl 0, (by decide : (0 : Int) ≤ 20000)⟩
      | succ k ih =>
        rw [fo_s]
        have := spr_u (hs := hs) (m := m &&& pm k) (sub_256 (sub_and_l hm) hn) (fun x hx => hb x (sub_and_l hm x hx))
        omega
    exact this 4
  · rw [if_pos rfl]
    exact spr_u (sub_256 hm hn) (fun x hx => hb x (hm x hx))
theorem hi_r {w : W_} (h : WF w) {y : Nat} (hy : y ≤ 30) : ∀ x, x < nA w → -10000 < hi w y x ∧ hi w y x < 10000 := fun x hx => by
  have := hi_b h hx hy
  omega
theorem M_isLevel_s (hF : 100 ≤ F) (h : WF (D 117)) {y : Nat} (hy : y ≤ 30) : ∃ D', g_M_isLevel F (nI y) D = some (b01 (lev (D 117) y), D') ∧ (∀ c, c ≠ 123 → D' c = D c) ∧ ∀ x, x < nA (D 117) → D' 123 x = iI (hi (D 117) y x) := by
  obtain ⟨D', h1, h2, h3⟩ := M_lay_s hF h y
  refine ⟨D', ?_, h2, h3⟩
  have e := h2 117 (by decide)
  have hw : WF (D' 117) := by rw [e]; exact h
  have hv := wf_V30 h
  have hu := apa_b (hs := hi (D 117) y) (pm := pM (D 117)) (b := ba (D 117)) (wf_A8 h) (sub_sM (D 117)) (hi_r h hy)
  unfold g_M_isLevel
  rw [h1, ob_some, M_sitters_s hF hw, ob_some, M_unlevel_s hF hw (hs := hi (D 117) y) (by rw [e]; exact h3) (by rw [e]; exact hi_r h hy) (sub_sM _), ob_some, wf_V hw, e, iI_nI (nV (D 117))]
  have hlt := iI_lt (a := (nV (D 117) : Int)) (b := apa (hi (D 117) y) (pM (D 117)) (ba (D 117)) (sM (D 117))) (by omega) (by omega) (by omega) (by omega)
  unfold lev
  by_cases hc : apa (hi (D 117) y) (pM (D 117)) (ba (D 117)) (sM (D 117)) ≤ (nV (D 117) : Int)
  · rw [if_neg (fun q => by have := hlt.mp q; omega), decide_eq_true hc]
    rfl
  · rw [if_pos (hlt.mpr (by omega)), decide_eq_false hc]
    rfl
theorem M_isSitter_s (h : WF (D 117)) (a y : Int32) : g_M_isSitter D a y = some (b01 (vx a (nA (D 117)) && (decide (0 < nP (D 117)) && vx y 31) && st (D 117) a.toNatClampNeg)) := by
  have h8 := wf_A8 h
  unfold g_M_isSitter
  rw [M_isPerson_s h, M_isYear_s h]
  simp only [b01_z]
  rcases vx_c a (nA (D 117)) (by omega) with h1 | ⟨x, hx, rfl⟩
  · rw [h1]
    rfl
  · rw [vx_nI (by omega), decide_eq_true hx, M_sits_s D (by omega), ob_some, nI_clamp (by omega)]
    simp only [b01_z]
    cases decide (0 < nP (D 117)) <;> cases vx y 31 <;> cases st (D 117) x <;> rfl
end MV
