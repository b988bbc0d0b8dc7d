/-! ===== the reference's leaves: what they answer ===== -/
section ML
variable {F : Nat} {D : mx_D}
theorem M_in_s (a b c : Int64) : g_M_in a b c = b01 (decide (b.toInt ≤ a.toInt) && decide (a.toInt ≤ c.toInt)) := by
  unfold g_M_in
  by_cases h1 : a.toInt < b.toInt
  · rw [if_pos ((lg_cmp_lt a b).mpr (Int64.lt_iff_toInt_lt.mpr h1))]
    have : decide (b.toInt ≤ a.toInt) = false := decide_eq_false (by omega)
    rw [this]
    rfl
  · rw [if_neg (fun q => h1 (Int64.lt_iff_toInt_lt.mp ((lg_cmp_lt a b).mp q)))]
    have e1 : decide (b.toInt ≤ a.toInt) = true := decide_eq_true (by omega)
    rw [e1]
    by_cases h2 : c.toInt < a.toInt
    · rw [if_pos ((lg_cmp_gt a c).mpr (Int64.lt_iff_toInt_lt.mpr h2))]
      have : decide (a.toInt ≤ c.toInt) = false := decide_eq_false (by omega)
      rw [this]
      rfl
    · rw [if_neg (fun q => h2 (Int64.lt_iff_toInt_lt.mp ((lg_cmp_gt a c).mp q)))]
      have : decide (a.toInt ≤ c.toInt) = true := decide_eq_true (by omega)
      rw [this]
      rfl
def vl (x : Int64) (n : Nat) : Bool := decide (0 ≤ x.toInt) && decide (x.toInt < n)
theorem vl_i (a : Int32) (n : Nat) : vl a.toInt64 n = vx a n := by
  unfold vl vx
  rw [Int32.toInt_toInt64]
theorem M_in_0 (a : Int64) {n : Nat} (hn : n < 1000) : g_M_in a (lN 0) ((nI n - nI 1).toInt64) = b01 (vl a n) := by
  rw [M_in_s, Int32.toInt_toInt64, pk_sub_toInt (by omega) (by omega), lN_toInt (by decide)]
  unfold vl
  congr 2
  apply decide_eq_decide.mpr
  omega
theorem M_in_l (a : Int64) {c : Int64} {n : Nat} (hc : c.toInt = n) : g_M_in a (lN 0) c = b01 (vl a (n + 1)) := by
  rw [M_in_s, lN_toInt (by decide), hc]
  unfold vl
  congr 2
  apply decide_eq_decide.mpr
  omega
theorem M_isPew_s (h : WF (D 117)) (a : Int64) : g_M_isPew D a = b01 (vl a (nP (D 117))) := by
  have := wf_P4 h
  unfold g_M_isPew
  rw [wf_P h, M_in_0 a (by omega)]
theorem M_isPlace_s (h : WF (D 117)) (a b : Int64) : g_M_isPlace D a b = b01 (vl a (nP (D 117)) && vl b (nL (D 117))) := by
  have := wf_L5 h
  unfold g_M_isPlace
  rw [M_isPew_s h, wf_L h, M_in_0 b (by omega)]
  simp only [b01_z]
  cases vl a (nP (D 117)) <;> cases vl b (nL (D 117)) <;> rfl
theorem M_isPerson_s (h : WF (D 117)) (a : Int32) : g_M_isPerson D a = b01 (vx a (nA (D 117))) := by
  have := wf_A8 h
  unfold g_M_isPerson
  rw [wf_A h, M_in_0 _ (by omega), vl_i]
theorem M_isHat_s (h : WF (D 117)) (a : Int32) : g_M_isHat D a = b01 (vx a (nH (D 117))) := by
  have := wf_H8 h
  unfold g_M_isHat
  rw [wf_H h, M_in_0 _ (by omega), vl_i]
theorem M_isBook_s (h : WF (D 117)) (a : Int32) : g_M_isBook D a = b01 (vx a (nB (D 117))) := by
  have := wf_B5 h
  unfold g_M_isBook
  rw [wf_B h, M_in_0 _ (by omega), vl_i]
theorem M_isChurch_s (h : WF (D 117)) : g_M_isChurch D = b01 (decide (0 < nP (D 117))) := by
  have := wf_P4 h
  unfold g_M_isChurch
  rw [wf_P h]
  by_cases h1 : 0 < nP (D 117)
  · rw [if_neg (nI_nle h1 (by omega)), decide_eq_true h1]
    rfl
  · have h2 : nP (D 117) = 0 := by omega
    rw [if_pos (by rw [h2]; decide), decide_eq_false h1]
    rfl
theorem M_isYear_s (h : WF (D 117)) (a : Int32) : g_M_isYear D a = b01 (decide (0 < nP (D 117)) && vx a 31) := by
  unfold g_M_isYear
  rw [M_isChurch_s h, M_in_l _ (n := 30) (by decide), vl_i]
  simp only [b01_z]
  cases decide (0 < nP (D 117)) <;> cases vx a (30 + 1) <;> rfl
theorem M_isSlot_s (a : Int32) : g_M_isSlot a = b01 (vx a 4) := by
  unfold g_M_isSlot
  rw [M_in_l _ (n := 3) (by decide), vl_i]
theorem M_isSeed_s (a : Int32) : g_M_isSeed a = b01 (vx a 2000000001) := by
  unfold g_M_isSeed
  rw [M_in_l _ (n := 2000000000) (by decide), vl_i]
theorem M_of_s (D : mx_D) {a k : Nat} (ha : a < 8) (hk : k < 6) : g_M_of D (nI a) (nI k) = some (D 117 (40 + 6 * a + k)) := by
  unfold g_M_of
  simp (disch := omega) only [rk_in, ob_some, nI_add, pk_mul, nI_clamp, sD_eq, sD_ne, zk_0, zk_1, Option.some.injEq]
theorem M_ofPew_s (D : mx_D) {p k : Nat} (hp : p < 4) (hk : k < 3) : g_M_ofPew D (nI p) (nI k) = some (D 117 (8 + 3 * p + k)) := by
  unfold g_M_ofPew
  simp (disch := omega) only [rk_in, ob_some, nI_add, pk_mul, nI_clamp, sD_eq, sD_ne, zk_0, zk_1, Option.some.injEq]
theorem M_trenchAt_s (p i : Nat) : g_M_trenchAt (nI p) (nI i) = nI (20 + 5 * p + i) := by
  unfold g_M_trenchAt
  simp only [nI_add, pk_mul]
theorem M_standsOn_s (D : mx_D) {b : Nat} (hb : b < 5) : g_M_standsOn D (nI b) = some (D 117 (96 + 2 * b + 1)) := by
  unfold g_M_standsOn
  simp (disch := omega) only [rk_in, ob_some, nI_add, pk_mul, nI_clamp, sD_eq, sD_ne, zk_0, zk_1, Option.some.injEq]
theorem M_floorOf_s (D : mx_D) {p i : Nat} (hp : p < 4) (hi : i < 5) : g_M_floorOf D (nI p) (nI i) = some (iI (flo (D 117) p i)) := by
  unfold g_M_floorOf
  rw [M_ofPew_s D hp (by decide), ob_some, M_ofPew_s D hp (by decide), ob_some, M_trenchAt_s]
  simp (disch := omega) only [rk_in, ob_some, nI_add, pk_mul, nI_clamp, sD_eq, sD_ne, zk_0, zk_1, Option.some.injEq]
  unfold flo
  rw [ti_at (D 117) (8 + 3 * p + 0), ti_at (D 117) (8 + 3 * p + 2), ti_at (D 117) (20 + 5 * p + i), iI_sub, iI_sub]
  rfl
theorem M_sits_s (D : mx_D) {x : Nat} (hx : x < 8) : g_M_sits D (nI x) = some (b01 (st (D 117) x)) := by
  unfold g_M_sits
  rw [M_of_s D hx (by decide), ob_some]
  unfold st
  by_cases h : D 117 (40 + 6 * x + 3) = -1
  · rw [if_pos h]
    simp [h]
    rfl
  · rw [if_neg h]
    simp [h]
    rfl
theorem M_sitters_s (hF : 100 ≤ F) (h : WF (D 117)) : g_M_sitters F D = some (nI (sM (D 117))) := by
  have h8 := wf_A8 h
  unfold g_M_sitters
  refine lu0 (fun f a => g_M_sitters_4 F D f (nI (mk (fun x => st (D 117) x) a)) (nI a)) (n := nA (D 117)) _ (by omega) (fun f a ha => ?_) (fun f => ?_)
  · rw [s_M_sitters_4]
    unfold b_M_sitters_4
    rw [wf_A h, if_neg (nI_ge ha (by omega)), M_sits_s D (by omega), ob_some, mk_s]
    cases st (D 117) a
    · rw [if_pos ((b01_z _).mpr rfl), nb_or, nI_add]
      rfl
    · rw [if_neg (fun q => by cases (b01_z _).mp q), nb_shl a (by omega), nb_or, nI_add]
      rfl
  · rw [s_M_sitters_4]
    unfold b_M_sitters_4
    rw [wf_A h, if_pos (nI_le (Nat.le_refl _) (by omega))]
    rfl
theorem M_inPew_s (hF : 100 ≤ F) (h : WF (D 117)) (p : Nat) : g_M_inPew F D (nI p) = some (nI (pM (D 117) p)) := by
  have h8 := wf_A8 h
  unfold g_M_inPew
  refine lu0 (fun f a => g_M_inPew_4 F D f (nI p) (nI (mk (fun x => decide (D 117 (40 + 6 * x + 3) = nI p)) a)) (nI a)) (n := nA (D 117)) _ (by omega) (fun f a ha => ?_) (fun f => ?_)
  · rw [s_M_inPew_4]
    unfold b_M_inPew_4
    rw [wf_A h, if_neg (nI_ge ha (by omega)), M_of_s D (by omega) (by decide), ob_some, mk_s]
    by_cases hp : D 117 (40 + 6 * a + 3) = nI p
    · rw [if_pos hp, nb_shl a (by omega), nb_or, nI_add]
      simp [hp]
    · rw [if_neg hp, nb_or, nI_add]
      simp [hp]
  · rw [s_M_inPew_4]
    unfold b_M_inPew_4
    rw [wf_A h, if_pos (nI_le (Nat.le_refl _) (by omega))]
    rfl
theorem M_bits_s (hF : 100 ≤ F) {m : Nat} (hm : m < 256) : g_M_bits F (nI m) = some (nI (bc m)) := by
  unfold g_M_bits
  have e : bc m = fo (fun x s => s + (if m.testBit x then 1 else 0)) 0 10 := by
    have h8 : m.testBit 8 = false := Nat.testBit_lt_two_pow hm
    have h9 : m.testBit 9 = false := Nat.testBit_lt_two_pow (by omega)
    rw [fo_s, fo_s, h8, h9]
    rfl
  rw [e]
  refine lu0 (fun f a => g_M_bits_4 F f (nI m) (nI (fo (fun x s => s + (if m.testBit x then 1 else 0)) 0 a)) (nI a)) (n := 10) _ (by omega) (fun f a ha => ?_) (fun f => ?_)
  · rw [s_M_bits_4]
    unfold b_M_bits_4
    rw [if_neg (nI_ge ha (by omega)), nb_bit (by omega) (by omega), nI_add, nI_add, fo_s]
  · rw [s_M_bits_4]
    unfold b_M_bits_4
    rw [if_pos (nI_le (Nat.le_refl _) (by omega))]
/-- who sits at a place -/
def sat (w : W_) (p i : Int32) : Int32 := ff (fun x => decide (w (40 + 6 * x + 3) = p) && decide (w (40 + 6 * x + 4) = i)) (nA w) 0
theorem M_sitterAt_s (hF : 100 ≤ F) (h : WF (D 117)) (p i : Int32) : g_M_sitterAt F D p i = some (sat (D 117) p i) := by
  have h8 := wf_A8 h
  unfold g_M_sitterAt sat
  refine lff0 _ (fun f a => g_M_sitterAt_2 F D f p i (nI a)) (n := nA (D 117)) (by omega) (fun f a ha => ?_) (fun f => ?_)
  · rw [s_M_sitterAt_2]
    unfold b_M_sitterAt_2
    rw [wf_A h, if_neg (nI_ge ha (by omega)), M_of_s D (by omega) (by decide), ob_some, nI_add]
    by_cases h1 : D 117 (40 + 6 * a + 3) = p
    · rw [if_pos h1, M_of_s D (by omega) (by decide), ob_some]
      by_cases h2 : D 117 (40 + 6 * a + 4) = i
      · simp [h1, h2]
      · simp [h2]
    · rw [if_neg h1]
      simp [h1]
  · rw [s_M_sitterAt_2]
    unfold b_M_sitterAt_2
    rw [wf_A h, if_pos (nI_le (Nat.le_refl _) (by omega))]
theorem M_booksOf_s (hF : 100 ≤ F) (h : WF (D 117)) (a : Int32) : g_M_booksOf F D a = some (iI (bks (D 117) a)) := by
  have h8 := wf_B5 h
  unfold g_M_booksOf bks
  refine lu0 (fun f b => g_M_booksOf_4 F D f a (iI (fo (fun b s => s + (if D 117 (96 + 2 * b + 1) = a then ti (D 117) (96 + 2 * b) else 0)) 0 b)) (nI b)) (n := nB (D 117)) _ (by omega) (fun f b hb => ?_) (fun f => ?_)
  · rw [s_M_booksOf_4]
    unfold b_M_booksOf_4
    rw [wf_B h, if_neg (nI_ge hb (by omega)), M_standsOn_s D (by omega), ob_some, fo_s]
    by_cases hp : D 117 (96 + 2 * b + 1) = a
    · simp (disch := omega) only [rk_in, ob_some, nI_add, pk_mul, nI_clamp, sD_eq, sD_ne, zk_0, zk_1, Option.some.injEq, hp, if_true]
      rw [ti_at (D 117) (96 + 2 * b), iI_add]
    · simp (disch := omega) only [rk_in, ob_some, nI_add, pk_mul, nI_clamp, sD_eq, sD_ne, zk_0, zk_1, Option.some.injEq, hp, if_false]
      rw [iI_nI 0, iI_add]
      rfl
  · rw [s_M_booksOf_4]
    unfold b_M_booksOf_4
    rw [wf_B h, if_pos (nI_le (Nat.le_refl _) (by omega))]
theorem M_bodyOf_s (hF : 100 ≤ F) (h : WF (D 117)) {x : Nat} (hx : x < nA (D 117)) (y : Nat) : g_M_bodyOf F D (nI x) (nI y) = some (iI (bod (D 117) y x)) := by
  have h8 := wf_A8 h
  have hH := wf_H8 h
  have e : ∀ s : Int32, b_M_bodyOf_28 F D (nI x) (nI y) s = some (D 117 (40 + 6 * x) + nI y * D 117 (40 + 6 * x + 1) + D 117 (40 + 6 * x + 2) + s + iI (bks (D 117) (nI x))) := by
    intro s
    unfold b_M_bodyOf_28
    rw [M_of_s D (by omega) (by decide), ob_some, M_of_s D (by omega) (by decide), ob_some, M_of_s D (by omega) (by decide), ob_some, M_booksOf_s hF h, ob_some]
    rfl
  unfold g_M_bodyOf
  rw [M_of_s D (by omega) (by decide), ob_some]
  have key : ∀ s : Int, some (D 117 (40 + 6 * x) + nI y * D 117 (40 + 6 * x + 1) + D 117 (40 + 6 * x + 2) + iI s + iI (bks (D 117) (nI x))) = some (iI (ti (D 117) (40 + 6 * x) + y * ti (D 117) (40 + 6 * x + 1) + ti (D 117) (40 + 6 * x + 2) + s + bks (D 117) (nI x))) := by
    intro s
    rw [ti_at (D 117) (40 + 6 * x), ti_at (D 117) (40 + 6 * x + 1), ti_at (D 117) (40 + 6 * x + 2), iI_nI y]
    simp only [iI_add, iI_mul]
  unfold bod hat
  by_cases hn : D 117 (40 + 6 * x + 5) = -1
  · rw [if_pos hn, if_pos hn]
    exact (e _).trans (key 0)
  · rw [if_neg hn, if_neg hn]
    obtain ⟨h1, h2⟩ := (wf_ht h hx).resolve_left hn
    rw [h1]
    simp (disch := omega) only [rk_in, ob_some, nI_add, nI_clamp]
    rw [e, ti_at (D 117) (88 + ht (D 117) x)]
    exact key _
theorem M_highOf_s (hF : 100 ≤ F) (h : WF (D 117)) {x : Nat} (hx : x < nA (D 117)) (y : Nat) : g_M_highOf F D (nI x) (nI y) = some (iI (hi (D 117) y x)) := by
  have h8 := wf_A8 h
  have hP := wf_P4 h
  have hL := wf_L5 h
  unfold g_M_highOf hi
  rw [M_bodyOf_s hF h hx, ob_some, M_sits_s D (by omega), ob_some]
  cases hs : st (D 117) x
  · rw [if_pos ((b01_z _).mpr rfl), iI_nI 0, iI_add]
    rfl
  · rw [if_neg (fun q => by cases (b01_z _).mp q)]
    obtain ⟨h1, h2, h3, h4⟩ := wf_sit h hx hs
    rw [M_of_s D (by omega) (by decide), ob_some, M_of_s D (by omega) (by decide), ob_some, h1, h3, M_floorOf_s D (by omega) (by omega), ob_some, iI_add]
    rfl
end ML
