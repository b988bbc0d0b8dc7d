/-! ===== the class's sawing: the least at every pew ===== -/
section SC
variable {D : mx_D} {w : W_} {F : Nat}
theorem H_lowest_s (hF : 100 ≤ F) {n : Nat} (hn : n ≤ 8) {hs : Nat → Int} (hh : ∀ x, x < n → D 35 x = iI (hs x)) (hb : ∀ x, x < n → -10000 < hs x ∧ hs x < 10000) {m : Nat} (hm : sub m n) : g_Heights_lowestOf F D (nI m) = some (iI (lo hs m 8 10000)) := by
  have h256 := sub_256 hm hn
  have hbm : ∀ x, m.testBit x = true → -10000 < hs x ∧ hs x < 10000 := fun x hx => hb x (hm x hx)
  unfold g_Heights_lowestOf
  refine lu0 (fun f a => g_Heights_lowestOf_6 F D f (nI m) (iI (lo hs m a 10000)) (nI a)) (n := 8) _ (by omega) (fun f a ha => ?_) (fun f => ?_)
  · rw [s_Heights_lowestOf_6]
    unfold b_Heights_lowestOf_6
    have l1 := lo_le hs m 10000 a
    have lb : -10000 < lo hs m a 10000 ∧ lo hs m a 10000 ≤ 10000 := by
      refine ⟨?_, l1.1⟩
      rcases l1.2.2 with q | ⟨x, hx, hxb, q⟩
      · omega
      · have := hbm x hxb
        omega
    have el : lo hs m (a + 1) 10000 = if m.testBit a then min (lo hs m a 10000) (hs a) else lo hs m a 10000 := rfl
    rw [if_neg (nI_ge ha (by decide)), nb_bit (by omega) (by omega), rk_in (by omega) (by decide), nI_clamp (by omega), nI_add, el]
    cases hbt : m.testBit a
    · rw [if_pos (by rfl), if_neg (by decide)]
    · have := hbm a hbt
      rw [if_neg (by decide), if_pos rfl, hh a (hm a hbt), imn_iI (by omega) (by omega) (by omega) (by omega)]
  · rw [s_Heights_lowestOf_6]
    unfold b_Heights_lowestOf_6
    rw [if_pos (nI_le (Nat.le_refl _) (by decide))]
theorem H_tallest_s (hF : 100 ≤ F) {n : Nat} (hn : n ≤ 8) {hs : Nat → Int} (hh : ∀ x, x < n → D 35 x = iI (hs x)) (hb : ∀ x, x < n → -10000 < hs x ∧ hs x < 10000) {m : Nat} (hm : sub m n) : g_Heights_tallestOf F D (nI m) = some (iI (tp hs m 8 (-10000))) := by
  have h256 := sub_256 hm hn
  have hbm : ∀ x, m.testBit x = true → -10000 < hs x ∧ hs x < 10000 := fun x hx => hb x (hm x hx)
  unfold g_Heights_tallestOf
  rw [show (-10000 : Int32) = iI (tp hs m 0 (-10000)) from rfl]
  refine lu0 (fun f a => g_Heights_tallestOf_6 F D f (nI m) (iI (tp hs m a (-10000))) (nI a)) (n := 8) _ (by omega) (fun f a ha => ?_) (fun f => ?_)
  · rw [s_Heights_tallestOf_6]
    unfold b_Heights_tallestOf_6
    have t1 := tp_ge hs m (-10000) a
    have tb : tp hs m a (-10000) < 10000 ∧ -10000 ≤ tp hs m a (-10000) := by
      refine ⟨?_, t1.1⟩
      rcases t1.2.2 with q | ⟨x, hx, hxb, q⟩
      · omega
      · have := hbm x hxb
        omega
    have et : tp hs m (a + 1) (-10000) = if m.testBit a then max (tp hs m a (-10000)) (hs a) else tp hs m a (-10000) := rfl
    rw [if_neg (nI_ge ha (by decide)), nb_bit (by omega) (by omega), rk_in (by omega) (by decide), nI_clamp (by omega), nI_add, et]
    cases hbt : m.testBit a
    · rw [if_pos (by rfl), if_neg (by decide)]
    · have := hbm a hbt
      rw [if_neg (by decide), if_pos rfl, hh a (hm a hbt), imx_iI (by omega) (by omega) (by omega) (by omega)]
  · rw [s_Heights_tallestOf_6]
    unfold b_Heights_tallestOf_6
    rw [if_pos (nI_le (Nat.le_refl _) (by decide))]
/-- how far from level under a sawing said in inches -/
def offI (w : W_) (hs : Nat → Int) (S : Nat) (m : Nat → Int) : Int := apa (hsm w hs m) (pM w) (ba w) S
theorem offN_I (w : W_) (hs : Nat → Int) (S : Nat) (d : Nat → Nat) : offN w hs S d = offI w hs S (fun p => (d p : Int)) := rfl
def tk (w : W_) (S p : Nat) : Bool := decide (¬ S &&& pM w p = 0)
def lw (w : W_) (hs : Nat → Int) (S p : Nat) : Int := lo hs (S &&& pM w p) 8 10000
def tt (w : W_) (hs : Nat → Int) (S p : Nat) : Int := tp hs (S &&& pM w p) 8 (-10000)
theorem pM_tb {w : W_} {p x : Nat} : (pM w p).testBit x = (decide (x < nA w) && decide (w (40 + 6 * x + 3) = nI p)) := mk_tb _ _ _
theorem pM_pw (hW : WF w) {x p : Nat} (hp : p < 2 ^ 31) (hx : x < nA w) : w (40 + 6 * x + 3) = nI p ↔ st w x = true ∧ pw w x = p := by
  have h4 := wf_P4 hW
  constructor
  · intro e
    have hs := st_t e hp
    obtain ⟨q1, q2, -, -⟩ := wf_sit hW hx hs
    rw [e] at q1
    exact ⟨hs, ((nI_eq hp (by omega)).mp q1).symm⟩
  · rintro ⟨q1, q2⟩
    rw [← q2]
    exact (wf_sit hW hx q1).1
/-- of a set of sitters: each pew's lowest, tallest -/
theorem tk_in (hW : WF w) {hs : Nat → Int} {S : Nat} (hS : sub S (nA w)) (hst : ∀ x, S.testBit x = true → st w x = true) (x : Nat) (hx : S.testBit x = true) : pw w x < 4 ∧ tk w S (pw w x) = true ∧ lw w hs S (pw w x) ≤ hs x ∧ hs x ≤ tt w hs S (pw w x) := by
  have h4 := wf_P4 hW
  have h8 := wf_A8 hW
  have hxA := hS x hx
  have h1 := (wf_sit hW hxA (hst x hx)).2.1
  have hb : (S &&& pM w (pw w x)).testBit x = true := by
    rw [Nat.testBit_and, hx, pM_tb, decide_eq_true hxA, decide_eq_true ((pM_pw hW (by omega) hxA).mpr ⟨hst x hx, rfl⟩)]
    rfl
  refine ⟨by omega, decide_eq_true (fun e => ?_), (lo_le hs _ 10000 8).2.1 x (by omega) hb, (tp_ge hs _ (-10000) 8).2.1 x (by omega) hb⟩
  rw [e] at hb
  simp at hb
theorem tk_at (hW : WF w) {hs : Nat → Int} (hb : ∀ x, x < nA w → -9000 < hs x ∧ hs x < 9000) {S : Nat} (hS : sub S (nA w)) {p : Nat} (hp : p < 4) (h : tk w S p = true) : (∃ x, S.testBit x = true ∧ st w x = true ∧ pw w x = p ∧ hs x = tt w hs S p) ∧ ∃ x, S.testBit x = true ∧ st w x = true ∧ pw w x = p ∧ hs x = lw w hs S p := by
  have h8 := wf_A8 hW
  unfold tk at h
  obtain ⟨i, hi⟩ := Nat.exists_testBit_of_ne_zero (of_decide_eq_true h)
  have mem : ∀ x, (S &&& pM w p).testBit x = true → S.testBit x = true ∧ x < nA w ∧ st w x = true ∧ pw w x = p := fun x hx => by
    rw [Nat.testBit_and, Bool.and_eq_true, pM_tb, Bool.and_eq_true, decide_eq_true_eq, decide_eq_true_eq] at hx
    obtain ⟨q1, q2⟩ := (pM_pw hW (by omega) hx.2.1).mp hx.2.2
    exact ⟨hx.1, hx.2.1, q1, q2⟩
  obtain ⟨i1, i2, i3, i4⟩ := mem i hi
  have hbi := hb i i2
  refine ⟨?_, ?_⟩
  · obtain ⟨a1, a2, a3⟩ := tp_ge hs (S &&& pM w p) (-10000) 8
    have := a2 i (by omega) hi
    rcases a3 with a3 | ⟨x, x1, x2, x3⟩
    · omega
    · obtain ⟨j1, j2, j3, j4⟩ := mem x x2
      exact ⟨x, j1, j3, j4, x3.symm⟩
  · obtain ⟨a1, a2, a3⟩ := lo_le hs (S &&& pM w p) 10000 8
    have := a2 i (by omega) hi
    rcases a3 with a3 | ⟨x, x1, x2, x3⟩
    · omega
    · obtain ⟨j1, j2, j3, j4⟩ := mem x x2
      exact ⟨x, j1, j3, j4, x3.symm⟩
theorem hsmI_b (hW : WF w) {hs : Nat → Int} (hb : ∀ x, x < nA w → -9000 < hs x ∧ hs x < 9000) {m : Nat → Int} (h : ∀ p, p < 4 → 0 ≤ m p ∧ m p ≤ 9) : ∀ x, x < nA w → -10000 < hsm w hs m x ∧ hsm w hs m x < 10000 := fun x hx => by
  have := hb x hx
  unfold hsm
  cases hs' : st w x
  · rw [if_neg (by decide)]
    omega
  · have h2 := (wf_sit hW hx hs').2.1
    have h4 := wf_P4 hW
    have h3 := h (pw w x) (by omega)
    rw [if_pos rfl]
    omega
theorem offI_all (hW : WF w) (hba : ba w = true) {hs : Nat → Int} (hb : ∀ x, x < nA w → -9000 < hs x ∧ hs x < 9000) {S : Nat} (hS : sub S (nA w)) (hst : ∀ x, S.testBit x = true → st w x = true) {m : Nat → Int} (hm : ∀ p, p < 4 → 0 ≤ m p ∧ m p ≤ 9) {L : Int} (hL : 0 ≤ L) : offI w hs S m ≤ L ↔ ∀ p q, p < 4 → q < 4 → tk w S p = true → tk w S q = true → (tt w hs S p - m p) - (lw w hs S q - m q) ≤ L := by
  have h8 := wf_A8 hW
  have hbm := hsmI_b hW hb hm
  have es : ∀ x, S.testBit x = true → hsm w hs m x = hs x - m (pw w x) := fun x hx => by
    unfold hsm
    rw [hst x hx, if_pos rfl]
  unfold offI apa
  rw [hba, if_pos rfl, spr_le (sub_256 hS h8) (fun x _ hx => hbm x (hS x hx)) hL]
  constructor
  · intro h p q hp hq tp tq
    obtain ⟨⟨x, x1, x2, x3, x4⟩, -⟩ := tk_at hW hb hS hp tp
    obtain ⟨-, ⟨y, y1, y2, y3, y4⟩⟩ := tk_at hW hb hS hq tq
    have := h x y (by have := hS x x1; omega) (by have := hS y y1; omega) x1 y1
    rw [es x x1, es y y1, x3, y3, x4, y4] at this
    exact this
  · intro h x y _ _ hx hy
    obtain ⟨a1, a2, a3, a4⟩ := tk_in hW (hs := hs) hS hst x hx
    obtain ⟨b1, b2, b3, b4⟩ := tk_in hW (hs := hs) hS hst y hy
    have := h _ _ a1 b1 a2 b2
    rw [es x hx, es y hy]
    omega
theorem spr_shift {hs hs' : Nat → Int} {m : Nat} {k : Int} (hm : m < 256) (h : ∀ x, m.testBit x = true → hs' x = hs x - k) (hb : ∀ x, m.testBit x = true → (-10000 < hs x ∧ hs x < 10000) ∧ (-10000 < hs' x ∧ hs' x < 10000)) : spr hs' m = spr hs m := by
  have z1 := spr_0 hm (fun x _ hx => (hb x hx).1)
  have z2 := spr_0 hm (fun x _ hx => (hb x hx).2)
  apply Int.le_antisymm
  · rw [spr_le hm (fun x _ hx => (hb x hx).2) z1]
    intro x y hx hy bx' yb
    have := (spr_le hm (fun x _ hx => (hb x hx).1) z1).mp (Int.le_refl _) x y hx hy bx' yb
    rw [h x bx', h y yb]
    omega
  · rw [spr_le hm (fun x _ hx => (hb x hx).1) z2]
    intro x y hx hy bx' yb
    have := (spr_le hm (fun x _ hx => (hb x hx).2) z2).mp (Int.le_refl _) x y hx hy bx' yb
    rw [h x bx', h y yb] at this
    omega
/-- by rows nothing that's sawn matters -/
theorem offI_row (hW : WF w) (hba : ba w = false) {hs : Nat → Int} (hb : ∀ x, x < nA w → -9000 < hs x ∧ hs x < 9000) {S : Nat} (hS : sub S (nA w)) {m : Nat → Int} (hm : ∀ p, p < 4 → 0 ≤ m p ∧ m p ≤ 9) : offI w hs S m = apa hs (pM w) (ba w) S := by
  have h8 := wf_A8 hW
  have hbm := hsmI_b hW hb hm
  unfold offI apa
  rw [hba, if_neg (by decide), if_neg (by decide)]
  refine fo_c 4 (fun p s hp => ?_)
  have mem : ∀ x, (S &&& pM w p).testBit x = true → x < nA w ∧ st w x = true ∧ pw w x = p := fun x hx => by
    rw [Nat.testBit_and, Bool.and_eq_true, pM_tb, Bool.and_eq_true, decide_eq_true_eq, decide_eq_true_eq] at hx
    obtain ⟨q1, q2⟩ := (pM_pw hW (by omega) hx.2.1).mp hx.2.2
    exact ⟨hx.2.1, q1, q2⟩
  rw [spr_shift (hs := hs) (k := m p) (sub_256 (sub_and_l hS) h8) (fun x hx => ?_) (fun x hx => ?_)]
  · obtain ⟨q1, q2, q3⟩ := mem x hx
    unfold hsm
    rw [q2, if_pos rfl, q3]
  · have := hb x (mem x hx).1
    exact ⟨⟨by omega, by omega⟩, hbm x (mem x hx).1⟩
/-- of the sawings from m0 on by which S is level: one -/
def SOL (w : W_) (hs : Nat → Int) (S : Nat) (L : Int) (m0 m : Nat → Int) : Prop := (∀ p, p < 4 → m0 p ≤ m p ∧ m p ≤ RM w p) ∧ offI w hs S m ≤ L
/-- the least at every pew -/
def LEA (w : W_) (hs : Nat → Int) (S : Nat) (L : Int) (m0 m : Nat → Int) : Prop := SOL w hs S L m0 m ∧ ∀ m', SOL w hs S L m0 m' → ∀ p, p < 4 → m p ≤ m' p
theorem S_begin_s (hF : 100 ≤ F) (h : CC D w) (hW : WF w) : ∃ D', g_Sawing_begin F D = some D' ∧ (∀ c, c ≠ 38 → c ≠ 39 → D' c = D c) ∧ ∀ p, p < 4 → D' 38 p = iI 0 ∧ D' 39 p = nI (RM w p) := by
  have h4 := wf_P4 hW
  unfold g_Sawing_begin
  exact lp0 (F := F) (s := D) (fun a (s : mx_D) => (∀ c, c ≠ 38 → c ≠ 39 → s c = D c) ∧ ∀ p, p < a → s 38 p = iI 0 ∧ s 39 p = nI (RM w p)) (fun s => (∀ c, c ≠ 38 → c ≠ 39 → s c = D c) ∧ ∀ p, p < 4 → s 38 p = iI 0 ∧ s 39 p = nI (RM w p)) (fun f a s => g_Sawing_begin_2 F f (nI a) s) (n := 4) (by omega) ⟨fun _ _ _ => rfl, fun q hq => absurd hq (Nat.not_lt_zero q)⟩ (fun f a s ha hI => by
    have hm : ∀ v : Int32, v = nI (RM w a) → (∀ c, c ≠ 38 → c ≠ 39 → sD (sD s 38 a (nI 0)) 39 a v c = D c) ∧ ∀ p, p < a + 1 → sD (sD s 38 a (nI 0)) 39 a v 38 p = iI 0 ∧ sD (sD s 38 a (nI 0)) 39 a v 39 p = nI (RM w p) := fun v hv => by
      refine ⟨fun c q1 q2 => by rw [sD_nr _ _ _ q2, sD_nr _ _ _ q1, hI.1 c q1 q2], fun p hp => ?_⟩
      rw [sD_nr _ _ _ (show 38 ≠ 39 by decide)]
      by_cases z : p = a
      · subst z
        rw [sD_eq, sD_eq, hv]
        exact ⟨rfl, rfl⟩
      · rw [sD_nj _ _ _ z, sD_nj _ _ _ z, sD_nr _ _ _ (show 39 ≠ 38 by decide)]
        exact hI.2 p (by omega)
    show ∃ s', _ ∧ g_Sawing_begin_2 F (f + 1) (nI a) s = g_Sawing_begin_2 F f (nI (a + 1)) s'
    rw [s_Sawing_begin_2]
    unfold b_Sawing_begin_2
    rw [if_neg (nI_ge ha (by decide)), nI_clamp (show a < 2 ^ 31 by omega)]
    simp (disch := omega) only [rk_in, sD_ne, nI_add]
    rw [hI.1 19 (by decide) (by decide), hI.1 21 (by decide) (by decide), hI.1 22 (by decide) (by decide), c_0 h, wf_P hW]
    by_cases c : a < nP w
    · rw [if_neg (nI_ge c (by omega)), c_21 h ha, c_22 h ha]
      refine ⟨_, hm _ ?_, rfl⟩
      have hu := wf_up hW ha
      unfold RM
      rw [if_pos c, ti_at w (8 + 3 * a + 1), ti_at w (8 + 3 * a + 2), iI_sub, iI_nI]
      congr 1
      omega
    · rw [if_pos (nI_le (by omega) (by omega))]
      refine ⟨_, hm _ ?_, rfl⟩
      rw [RM_0 (by omega)]) (fun f s hI => by
    refine ⟨s, ?_, hI⟩
    show g_Sawing_begin_2 F (f + 1) _ _ = _
    rw [s_Sawing_begin_2]
    unfold b_Sawing_begin_2
    rw [if_pos (by decide)])
theorem nar_0 : vp_nar .boolean (nI 0) = nI 0 := by decide
theorem S_measure_s (hF : 100 ≤ F) (hW : WF w) {hs : Nat → Int} (hb : ∀ x, x < nA w → -9000 < hs x ∧ hs x < 9000) (hT : HT D (nA w) hs (pM w) (sM w) (ba w)) {S : Nat} (hS : sub S (nA w)) : ∃ D', g_Sawing_measure F (nI S) D = some D' ∧ (∀ c, c ≠ 40 → c ≠ 41 → c ≠ 42 → D' c = D c) ∧ ∀ p, p < 4 → D' 40 p = b01 (tk w S p) ∧ (tk w S p = true → D' 41 p = iI (lw w hs S p) ∧ D' 42 p = iI (tt w hs S p)) := by
  have h8 := wf_A8 hW
  have h256 := sub_256 hS h8
  have hb2 : ∀ x, x < nA w → -10000 < hs x ∧ hs x < 10000 := fun x hx => by have := hb x hx; omega
  unfold g_Sawing_measure
  exact lp0 (F := F) (s := D) (fun a (s : mx_D) => (∀ c, c ≠ 40 → c ≠ 41 → c ≠ 42 → s c = D c) ∧ ∀ p, p < a → s 40 p = b01 (tk w S p) ∧ (tk w S p = true → s 41 p = iI (lw w hs S p) ∧ s 42 p = iI (tt w hs S p))) (fun s => (∀ c, c ≠ 40 → c ≠ 41 → c ≠ 42 → s c = D c) ∧ ∀ p, p < 4 → s 40 p = b01 (tk w S p) ∧ (tk w S p = true → s 41 p = iI (lw w hs S p) ∧ s 42 p = iI (tt w hs S p))) (fun f a s => g_Sawing_measure_2 F f (nI S) (nI a) s) (n := 4) (by omega) ⟨fun _ _ _ _ => rfl, fun q hq => absurd hq (Nat.not_lt_zero q)⟩ (fun f a s ha hI => by
    have hm : ∀ u v z : Int32, u = b01 (tk w S a) → (tk w S a = true → v = iI (lw w hs S a) ∧ z = iI (tt w hs S a)) → (∀ c, c ≠ 40 → c ≠ 41 → c ≠ 42 → sD (sD (sD s 40 a u) 41 a v) 42 a z c = D c) ∧ ∀ p, p < a + 1 → sD (sD (sD s 40 a u) 41 a v) 42 a z 40 p = b01 (tk w S p) ∧ (tk w S p = true → sD (sD (sD s 40 a u) 41 a v) 42 a z 41 p = iI (lw w hs S p) ∧ sD (sD (sD s 40 a u) 41 a v) 42 a z 42 p = iI (tt w hs S p)) := fun u v z hu hv => by
      refine ⟨fun c q1 q2 q3 => by rw [sD_nr _ _ _ q3, sD_nr _ _ _ q2, sD_nr _ _ _ q1, hI.1 c q1 q2 q3], fun p hp => ?_⟩
      rw [sD_nr _ _ _ (show 40 ≠ 42 by decide), sD_nr _ _ _ (show 40 ≠ 41 by decide), sD_nr _ _ _ (show 41 ≠ 42 by decide)]
      by_cases y : p = a
      · subst y
        rw [sD_eq, sD_eq, sD_eq]
        exact ⟨hu, hv⟩
      · rw [sD_nj _ _ _ y, sD_nj _ _ _ y, sD_nj _ _ _ y, sD_nr _ _ _ (show 41 ≠ 40 by decide), sD_nr _ _ _ (show 42 ≠ 41 by decide), sD_nr _ _ _ (show 42 ≠ 40 by decide)]
        exact hI.2 p (by omega)
    have h35 := hI.1 35 (by decide) (by decide) (by decide)
    have h36 := hI.1 36 (by decide) (by decide) (by decide)
    have e0 : nI S &&& s 36 a = nI (S &&& pM w a) := by rw [h36, hT.2.1 a ha, nb_and]
    have hsub := sub_and_l (b := pM w a) hS
    have hand : S &&& pM w a < 256 := sub_256 hsub h8
    show ∃ s', _ ∧ g_Sawing_measure_2 F (f + 1) (nI S) (nI a) s = g_Sawing_measure_2 F f (nI S) (nI (a + 1)) s'
    rw [s_Sawing_measure_2]
    unfold b_Sawing_measure_2
    unfold b_Sawing_measure_32 b_Sawing_measure_57
    rw [if_neg (nI_ge ha (by decide)), nI_clamp (show a < 2 ^ 31 by omega), e0]
    simp (disch := omega) only [rk_in, nI_add, nar_0, nar_1]
    by_cases c : S &&& pM w a = 0
    · have t0 : tk w S a = false := decide_eq_false (fun q => q c)
      rw [if_pos ((nI_z _ (by omega)).mpr c), sD_eq, if_pos z0, sD_ne _ _ _ _ (show 40 ≠ 41 by decide), sD_eq, if_pos z0]
      exact ⟨_, hm _ _ _ (by rw [t0]; rfl) (fun e => by rw [t0] at e; exact absurd e (by decide)), rfl⟩
    · have t1 : tk w S a = true := decide_eq_true c
      have f35 : ∀ u v : Int32, sD (sD s 40 a u) 41 a v 35 = D 35 := fun u v => by rw [sD_nr _ _ _ (by decide), sD_nr _ _ _ (by decide), h35]
      rw [if_neg (fun q => c ((nI_z _ (by omega)).mp q)), sD_eq, if_neg z1, H_lowest_s hF h8 (hs := hs) (fun x hx => by rw [sD_ne _ _ _ _ (by decide), h35]; exact hT.1 x hx) hb2 hsub, ob_some, sD_ne _ _ _ _ (show 40 ≠ 41 by decide), sD_eq, if_neg z1, H_tallest_s hF h8 (hs := hs) (fun x hx => by rw [f35]; exact hT.1 x hx) hb2 hsub, ob_some]
      exact ⟨_, hm _ _ _ (by rw [t1]; rfl) (fun _ => ⟨rfl, rfl⟩), rfl⟩) (fun f s hI => by
    refine ⟨s, ?_, hI⟩
    show g_Sawing_measure_2 F (f + 1) _ _ _ = _
    rw [s_Sawing_measure_2]
    unfold b_Sawing_measure_2
    rw [if_pos (by decide)])
/-- how low the lowest is as it is sawn -/
theorem S_lowest_s (hF : 100 ≤ F) {T : Nat → Bool} {l m : Nat → Int} (h : ∀ p, p < 4 → D 40 p = b01 (T p) ∧ (T p = true → D 41 p = iI (l p)) ∧ D 38 p = iI (m p)) (hb : ∀ p, p < 4 → T p = true → -20000 < l p - m p ∧ l p - m p < 20000) : ∃ v, g_Sawing_lowestNow F D = some (iI v) ∧ (v = 0 ∧ (∀ p, p < 4 → T p = false) ∨ (∃ q, q < 4 ∧ T q = true ∧ v = l q - m q) ∧ ∀ p, p < 4 → T p = true → v ≤ l p - m p) := by
  unfold g_Sawing_lowestNow
  obtain ⟨r, r1, v, r2, r3⟩ := lp0 (F := F) (s := ((nI 0, nI 0) : Int32 × Int32)) (fun a (s : Int32 × Int32) => (s = (nI 0, nI 0) ∧ ∀ p, p < a → T p = false) ∨ ∃ v, s = (iI v, nI 1) ∧ (∃ q, q < a ∧ T q = true ∧ v = l q - m q) ∧ ∀ p, p < a → T p = true → v ≤ l p - m p) (fun (r : Int32) => ∃ v, r = iI v ∧ (v = 0 ∧ (∀ p, p < 4 → T p = false) ∨ (∃ q, q < 4 ∧ T q = true ∧ v = l q - m q) ∧ ∀ p, p < 4 → T p = true → v ≤ l p - m p)) (fun f a s => g_Sawing_lowestNow_6 F D f s.1 s.2 (nI a)) (n := 4) (by omega) (Or.inl ⟨rfl, fun q hq => absurd hq (Nat.not_lt_zero q)⟩) (fun f a s ha hI => by
    obtain ⟨h1, h2, h3⟩ := h a ha
    show ∃ s' : Int32 × Int32, _ ∧ g_Sawing_lowestNow_6 F D (f + 1) s.1 s.2 (nI a) = g_Sawing_lowestNow_6 F D f s'.1 s'.2 (nI (a + 1))
    rw [s_Sawing_lowestNow_6]
    unfold b_Sawing_lowestNow_6
    unfold b_Sawing_lowestNow_41
    rw [if_neg (nI_ge ha (by decide)), nI_clamp (show a < 2 ^ 31 by omega), h1]
    simp (disch := omega) only [rk_in, nI_add]
    cases ht : T a
    · rw [if_pos zb0]
      refine ⟨s, ?_, rfl⟩
      rcases hI with ⟨i1, i2⟩ | ⟨v, i1, ⟨q, q1, q2, q3⟩, i3⟩
      · exact Or.inl ⟨i1, fun p hp => by
          by_cases z : p = a
          · rw [z]; exact ht
          · exact i2 p (by omega)⟩
      · exact Or.inr ⟨v, i1, ⟨q, by omega, q2, q3⟩, fun p hp hT => by
          by_cases z : p = a
          · rw [z, ht] at hT
            exact absurd hT (by decide)
          · exact i3 p (by omega) hT⟩
    · have h2' := h2 ht
      have hb' := hb a ha ht
      rw [if_neg zb1, h2', h3, iI_sub]
      rcases hI with ⟨i1, i2⟩ | ⟨v, i1, ⟨q, q1, q2, q3⟩, i3⟩
      · rw [i1, if_pos z0]
        exact ⟨(iI (l a - m a), nI 1), Or.inr ⟨_, rfl, ⟨a, by omega, ht, rfl⟩, fun p hp hT => by
          by_cases z : p = a
          · rw [z]; exact Int.le_refl _
          · rw [i2 p (by omega)] at hT
            exact absurd hT (by decide)⟩, rfl⟩
      · have hbq := hb q (by omega) q2
        rw [i1, if_neg z1]
        have cmp : iI v ≤ iI (l a - m a) ↔ v ≤ l a - m a := iI_le (by omega) (by omega) (by omega) (by omega)
        by_cases c : v ≤ l a - m a
        · rw [if_pos (cmp.mpr c)]
          exact ⟨(iI v, nI 1), Or.inr ⟨v, rfl, ⟨q, by omega, q2, q3⟩, fun p hp hT => by
            by_cases z : p = a
            · rw [z]; exact c
            · exact i3 p (by omega) hT⟩, rfl⟩
        · rw [if_neg (fun z => c (cmp.mp z))]
          exact ⟨(iI (l a - m a), nI 1), Or.inr ⟨_, rfl, ⟨a, by omega, ht, rfl⟩, fun p hp hT => by
            by_cases z : p = a
            · rw [z]; exact Int.le_refl _
            · have := i3 p (by omega) hT
              omega⟩, rfl⟩) (fun f s hI => by
    show ∃ r, g_Sawing_lowestNow_6 F D (f + 1) s.1 s.2 (nI 4) = some r ∧ _
    rw [s_Sawing_lowestNow_6]
    unfold b_Sawing_lowestNow_6
    rw [if_pos (by decide)]
    rcases hI with ⟨i1, i2⟩ | ⟨v, i1, i2, i3⟩
    · exact ⟨_, rfl, 0, by rw [i1]; rfl, Or.inl ⟨rfl, i2⟩⟩
    · exact ⟨_, rfl, v, by rw [i1], Or.inr ⟨i2, i3⟩⟩)
  subst r2
  exact ⟨v, r1, r3⟩
end SC
