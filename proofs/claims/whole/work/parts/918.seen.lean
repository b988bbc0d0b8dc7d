/-! ===== what was seen: in how many ways it may have been ===== -/
section SG
variable {F : Nat} {D : mx_D} {E : mx_E}
/-- a loop from 0 up to n that ends in what comes after it -/
theorem lpk {σ ρ : Type} (P : Nat → σ → Prop) (G : Nat → Nat → σ → ρ) (K : σ → ρ) (n : Nat) (hs : ∀ f a s, a < n → P a s → ∃ s', P (a + 1) s' ∧ G (f + 1) a s = G f (a + 1) s') (he : ∀ f s, P n s → G (f + 1) n s = K s) : ∀ k f a s, a + k = n → k < f → P a s → ∃ s', P n s' ∧ G f a s = K s' := by
  intro k
  induction k with
  | zero =>
    intro f a s h hf hp
    obtain ⟨f, rfl⟩ : ∃ g, f = g + 1 := ⟨f - 1, by omega⟩
    obtain rfl : a = n := by omega
    exact ⟨s, hp, he f s hp⟩
  | succ k ih =>
    intro f a s h hf hp
    obtain ⟨f, rfl⟩ : ∃ g, f = g + 1 := ⟨f - 1, by omega⟩
    obtain ⟨s', h1, h2⟩ := hs f a s (by omega) hp
    rw [h2]
    exact ih f (a + 1) s' (by omega) (by omega) h1
theorem lpk0 {σ ρ : Type} (P : Nat → σ → Prop) (G : Nat → Nat → σ → ρ) (K : σ → ρ) {F n : Nat} {s : σ} (hF : n < F) (h0 : P 0 s) (hs : ∀ f a s, a < n → P a s → ∃ s', P (a + 1) s' ∧ G (f + 1) a s = G f (a + 1) s') (he : ∀ f s, P n s → G (f + 1) n s = K s) : ∃ s', P n s' ∧ G F 0 s = K s' :=
  lpk P G K n hs he n F 0 s (by omega) hF h0
def wy (fit : Nat → Nat → Bool) (n : Nat) : Nat → Nat → Int
  | 0, T => if T = 0 then 1 else 0
  | k + 1, T => sg n (fun p => if T.testBit p = true ∧ fit k p = true then wy fit n k (nand T (2 ^ p)) else 0)
theorem wy_s (fit : Nat → Nat → Bool) (n k T : Nat) : wy fit n (k + 1) T = sg n (fun p => if T.testBit p = true ∧ fit k p = true then wy fit n k (nand T (2 ^ p)) else 0) := rfl
theorem wy_c {fit fit' : Nat → Nat → Bool} {n : Nat} : ∀ (k T : Nat), (∀ j p, j < k → p < n → fit j p = fit' j p) → wy fit n k T = wy fit' n k T
  | 0, _, _ => rfl
  | k + 1, T, h => by
    rw [wy_s, wy_s]
    refine sg_c n (fun p hp => ?_)
    rw [h k p (Nat.lt_succ_self k) hp, wy_c k _ (fun j q hj hq => h j q (Nat.lt_succ_of_lt hj) hq)]
theorem wy_nn (fit : Nat → Nat → Bool) (n : Nat) : ∀ (k T : Nat), 0 ≤ wy fit n k T
  | 0, T => by
    unfold wy
    split <;> decide
  | k + 1, T => by
    rw [wy_s]
    refine sg_nn n (fun p _ => ?_)
    split
    · exact wy_nn fit n k _
    · exact Int.le_refl 0
theorem wy_le (fit : Nat → Nat → Bool) {n : Nat} (hn : n ≤ 8) : ∀ (k T : Nat), wy fit n k T ≤ 8 ^ k
  | 0, T => by
    unfold wy
    split <;> decide
  | k + 1, T => by
    rw [wy_s]
    have h := sg_mono (f := fun p => if T.testBit p = true ∧ fit k p = true then wy fit n k (nand T (2 ^ p)) else 0) (g := fun _ => (8 : Int) ^ k) n (fun p _ => by
      split
      · exact wy_le fit hn k _
      · exact Int.le_trans (wy_nn fit n k 0) (wy_le fit hn k 0))
    rw [sg_k] at h
    have h2 : (n : Int) * 8 ^ k ≤ 8 * 8 ^ k := Int.mul_le_mul_of_nonneg_right (by omega) (Int.le_trans (wy_nn fit n k 0) (wy_le fit hn k 0))
    rw [Int.pow_succ, Int.mul_comm ((8 : Int) ^ k) 8]
    omega
theorem bc_nd : ∀ T : Fin 256, ∀ p : Fin 8, T.val.testBit p.val = true → bc (nand T.val (2 ^ p.val)) + 1 = bc T.val := by decide +kernel
theorem bc_n8 : ∀ n : Fin 9, ∀ T : Fin 256, T.val < 2 ^ n.val → bc T.val ≤ n.val := by decide +kernel
theorem bc_all : ∀ T : Fin 256, bc T.val = 8 → T.val = 255 := by decide +kernel
theorem bc_zero : ∀ T : Fin 256, bc T.val = 0 → T.val = 0 := by decide +kernel
theorem wy_sup (fit : Nat → Nat → Bool) {n : Nat} (hn : n ≤ 8) : ∀ (k T : Nat), T < 256 → wy fit n k T ≠ 0 → bc T = k ∧ T < 2 ^ n
  | 0, T, hT, h => by
    unfold wy at h
    by_cases e : T = 0
    · subst e
      exact ⟨rfl, Nat.pow_pos (by decide)⟩
    · rw [if_neg e] at h
      exact absurd rfl h
  | k + 1, T, hT, h => by
    rw [wy_s] at h
    have hp : 0 < sg n (fun p => if T.testBit p = true ∧ fit k p = true then wy fit n k (nand T (2 ^ p)) else 0) := by
      have := wy_nn fit n (k + 1) T
      rw [wy_s] at this
      omega
    obtain ⟨p, p1, p2⟩ := sg_ex hp
    by_cases c : T.testBit p = true ∧ fit k p = true
    · rw [if_pos c] at p2
      obtain ⟨q1, q2⟩ := wy_sup fit hn k (nand T (2 ^ p)) (nand_256 hT) (by omega)
      have b := bc_nd ⟨T, hT⟩ ⟨p, by omega⟩ c.1
      dsimp only at b
      refine ⟨by omega, ?_⟩
      refine Nat.lt_pow_two_of_testBit T (fun i hi => ?_)
      cases hb : T.testBit i
      · rfl
      · by_cases e : p = i
        · omega
        · have h3 : (nand T (2 ^ p)).testBit i = true := by
            rw [nand_tb, hb, Nat.testBit_two_pow]
            simp [e]
          have h4 := Nat.testBit_lt_two_pow (Nat.lt_of_lt_of_le q2 (Nat.pow_le_pow_right (by decide) hi))
          rw [h3] at h4
          exact absurd h4 (by decide)
    · rw [if_neg c] at p2
      omega
theorem wy_z (fit : Nat → Nat → Bool) {n : Nat} (hn : n ≤ 8) {k T : Nat} (hT : T < 256) (h : ¬ (bc T = k ∧ T < 2 ^ n)) : wy fit n k T = 0 := by
  rcases Int.decEq (wy fit n k T) 0 with q | q
  · exact absurd (wy_sup fit hn k T hT q) h
  · exact q
def twy (fit : Nat → Nat → Bool) (n k : Nat) : Int := sg 256 (fun T => wy fit n k T)
theorem twy_c {fit fit' : Nat → Nat → Bool} {n k : Nat} (h : ∀ j p, j < k → p < n → fit j p = fit' j p) : twy fit n k = twy fit' n k := sg_c 256 (fun T _ => wy_c k T h)
theorem twy_nn (fit : Nat → Nat → Bool) (n k : Nat) : 0 ≤ twy fit n k := sg_nn 256 (fun T _ => wy_nn fit n k T)
theorem twy_z (fit : Nat → Nat → Bool) {n k : Nat} (hn : n ≤ 8) (h : n < k) : twy fit n k = 0 := by
  have : twy fit n k = sg 256 (fun _ => 0) := sg_c 256 (fun T hT => wy_z fit hn hT (fun z => by
    have := bc_n8 ⟨n, by omega⟩ ⟨T, hT⟩ z.2
    dsimp only at this
    omega))
  rw [this, sg_0]
theorem twy_le (fit : Nat → Nat → Bool) {n k : Nat} (hn : n ≤ 8) : twy fit n k ≤ 600000000 := by
  by_cases h7 : k ≤ 7
  · have h := sg_mono (f := fun T => wy fit n k T) (g := fun _ => (8 : Int) ^ 7) 256 (fun T _ => by
      have h1 := wy_le fit hn k T
      have h2 : (8 : Int) ^ k ≤ 8 ^ 7 := by
        rcases (show k = 0 ∨ k = 1 ∨ k = 2 ∨ k = 3 ∨ k = 4 ∨ k = 5 ∨ k = 6 ∨ k = 7 by omega) with e | e | e | e | e | e | e | e <;> subst e <;> decide
      exact Int.le_trans h1 h2)
    rw [sg_k] at h
    have e : ((256 : Nat) : Int) * (8 : Int) ^ 7 = 536870912 := by decide
    rw [e] at h
    exact Int.le_trans h (by decide)
  · by_cases h8 : k = 8
    · subst h8
      have h := sg_mono (f := fun T => wy fit n 8 T) (g := fun T => if T = 255 then (8 : Int) ^ 8 else 0) 256 (fun T hT => by
        by_cases e : T = 255
        · rw [if_pos e]
          exact wy_le fit hn 8 T
        · rw [if_neg e, wy_z fit hn hT (fun z => e (bc_all ⟨T, hT⟩ z.1))]
          exact Int.le_refl 0)
      rw [sg_one, if_pos (by decide)] at h
      exact Int.le_trans h (by decide)
    · rw [twy_z fit hn (by omega)]
      decide
/-- one sighting told who it was -/
def fry (fit : Nat → Nat → Bool) (i p : Nat) : Nat → Nat → Bool := fun j q => fit j q && (if j = i then decide (q = p) else true)
theorem wy_fry (fit : Nat → Nat → Bool) {n i : Nat} : ∀ (k T : Nat), i < k → sg n (fun p => wy (fry fit i p) n k T) = wy fit n k T
  | 0, _, h => absurd h (Nat.not_lt_zero i)
  | k + 1, T, h => by
    by_cases e : i = k
    · subst e
      have h1 : ∀ p T', wy (fry fit i p) n i T' = wy fit n i T' := fun p T' => wy_c i T' (fun j q hj _ => by
        unfold fry
        rw [if_neg (by omega), Bool.and_true])
      have h2 : ∀ p, p < n → wy (fry fit i p) n (i + 1) T = if T.testBit p = true ∧ fit i p = true then wy fit n i (nand T (2 ^ p)) else 0 := fun p hp => by
        rw [wy_s]
        have : sg n (fun q => if T.testBit q = true ∧ fry fit i p i q = true then wy (fry fit i p) n i (nand T (2 ^ q)) else 0) = sg n (fun q => if q = p then (if T.testBit p = true ∧ fit i p = true then wy fit n i (nand T (2 ^ p)) else 0) else 0) := sg_c n (fun q _ => by
          rw [h1]
          by_cases c : q = p
          · subst c
            rw [if_pos rfl]
            have : fry fit i q i q = fit i q := by
              unfold fry
              rw [if_pos rfl, decide_eq_true rfl, Bool.and_true]
            rw [this]
          · rw [if_neg c]
            have : fry fit i p i q = false := by
              unfold fry
              rw [if_pos rfl, decide_eq_false c, Bool.and_false]
            rw [this, if_neg (fun z => absurd z.2 (by decide))])
        rw [this, sg_one, if_pos hp]
      rw [sg_c n h2, wy_s]
    · have ih := wy_fry fit (n := n) (i := i) k
      have h2 : ∀ p, p < n → wy (fry fit i p) n (k + 1) T = sg n (fun q => if T.testBit q = true ∧ fit k q = true then wy (fry fit i p) n k (nand T (2 ^ q)) else 0) := fun p hp => by
        rw [wy_s]
        refine sg_c n (fun q _ => ?_)
        have : fry fit i p k q = fit k q := by
          unfold fry
          rw [if_neg (fun z => e z.symm), Bool.and_true]
        rw [this]
      rw [sg_c n h2, sg_swap, wy_s]
      refine sg_c n (fun q _ => ?_)
      by_cases c : T.testBit q = true ∧ fit k q = true
      · rw [if_pos c]
        have h3 : sg n (fun x => if T.testBit q = true ∧ fit k q = true then wy (fry fit i x) n k (nand T (2 ^ q)) else 0) = sg n (fun x => wy (fry fit i x) n k (nand T (2 ^ q))) := sg_c n (fun x _ => if_pos c)
        rw [h3, ih _ (by omega)]
      · rw [if_neg c]
        have h3 : sg n (fun x => if T.testBit q = true ∧ fit k q = true then wy (fry fit i x) n k (nand T (2 ^ q)) else 0) = sg n (fun _ => 0) := sg_c n (fun x _ => if_neg c)
        rw [h3, sg_0]
theorem twy_fry (fit : Nat → Nat → Bool) {n i k : Nat} (hi : i < k) : sg n (fun p => twy (fry fit i p) n k) = twy fit n k := by
  unfold twy
  rw [sg_swap]
  exact sg_c 256 (fun T _ => wy_fry fit k T hi)
/-! the class's count -/
theorem fill_59 (hF : 1000 ≤ F) (v : Int32) (D : mx_D) : ∃ D', g_Arrays_fill_59 F v D = some D' ∧ (∀ c, c ≠ 59 → D' c = D c) ∧ ∀ j, j < 256 → D' 59 j = v := by
  unfold g_Arrays_fill_59
  refine lp0 (F := F) (fun a (s : mx_D) => (∀ c, c ≠ 59 → s c = D c) ∧ ∀ j, j < a → s 59 j = v) (fun D' => (∀ c, c ≠ 59 → D' c = D c) ∧ ∀ j, j < 256 → D' 59 j = v) (fun f a s => g_Arrays_fill_59_5 F f v (nI a) (nI 256) s) (n := 256) (by omega) ⟨fun _ _ => rfl, fun x hx => absurd hx (Nat.not_lt_zero x)⟩ (fun f a s ha hI => ?_) (fun f s hI => ?_)
  · refine ⟨sD s 59 a v, ⟨fun c hc => ?_, fun j hj => ?_⟩, ?_⟩
    · rw [sD_nr _ _ _ hc, hI.1 c hc]
    · by_cases q : j = a
      · subst q
        rw [sD_eq]
      · rw [sD_nj _ _ _ q, hI.2 j (by omega)]
    · rw [s_Arrays_fill_59_5]
      unfold b_Arrays_fill_59_5
      rw [if_neg (nI_ge ha (by decide)), rk_in ha (by decide), nI_clamp (by omega), nI_add]
  · refine ⟨s, ?_, hI⟩
    rw [s_Arrays_fill_59_5]
    unfold b_Arrays_fill_59_5
    rw [if_pos (nI_le (Nat.le_refl _) (by decide))]
theorem S_into_s (hF : 100 ≤ F) {n k T : Nat} (hn : n ≤ 8) (h1 : D 57 1 = nI n) (hT : T < 256) (fit : Nat → Nat → Bool) (hw : ∀ p, p < n → T.testBit p = true → D 59 (nand T (2 ^ p)) = iI (wy fit n k (nand T (2 ^ p)))) : g_Sightings_waysInto F D (nI T) (nI (mk (fit k) n)) = some (iI (wy fit n (k + 1) T)) := by
  unfold g_Sightings_waysInto
  refine lu0 (fun f a => g_Sightings_waysInto_5 F D f (nI T) (nI (mk (fit k) n)) (iI (sg a (fun p => if T.testBit p = true ∧ fit k p = true then wy fit n k (nand T (2 ^ p)) else 0))) (nI a)) (n := n) _ (by omega) (fun f a ha => ?_) (fun f => ?_)
  · rw [s_Sightings_waysInto_5]
    unfold b_Sightings_waysInto_5
    rw [h1, if_neg (nI_ge ha (by omega)), nb_and, nb_shl a (by omega), nb_and, nI_add, sg_s]
    have hm : (T &&& mk (fit k) n &&& 2 ^ a = 0) ↔ ¬ (T.testBit a = true ∧ fit k a = true) := by
      rw [and_pow, Nat.testBit_and, mk_tb, decide_eq_true ha, Bool.true_and, ← Bool.and_eq_true, Bool.not_eq_true]
    have hz := nI_z (T &&& mk (fit k) n &&& 2 ^ a) (by
      have h1 := Nat.and_le_left (n := T &&& mk (fit k) n) (m := 2 ^ a)
      have h2 := Nat.and_le_left (n := T) (m := mk (fit k) n)
      omega)
    by_cases c : T.testBit a = true ∧ fit k a = true
    · have hb : nand T (2 ^ a) < 256 := nand_256 hT
      rw [if_neg (fun z => hm.mp (hz.mp z) c), if_pos c, nb_not, rk_in hb (by decide), nI_clamp (by omega), hw a ha c.1, iI_add]
    · rw [if_pos (hz.mpr (hm.mpr c)), if_neg c, Int.add_zero]
  · rw [s_Sightings_waysInto_5]
    unfold b_Sightings_waysInto_5
    rw [h1, if_pos (nI_le (Nat.le_refl n) (by omega)), wy_s]
theorem pow8 {n : Nat} (hn : n ≤ 8) : 2 ^ n ≤ 256 := Nat.pow_le_pow_right (by decide) hn
theorem sg_up {n m : Nat} (h : n ≤ m) {g : Nat → Int} (hz : ∀ i, n ≤ i → i < m → g i = 0) : sg m g = sg n g := by
  have e := sg_app n g (m - n)
  rw [show n + (m - n) = m by omega] at e
  rw [e, sg_c (m - n) (fun j hj => hz (n + j) (by omega) (by omega)), sg_0, Int.add_zero]
theorem S_count_s (hF : 1000 ≤ F) {n m : Nat} (hn : n ≤ 8) (hm : m < 1000) (h0 : D 57 0 = nI m) (h1 : D 57 1 = nI n) (fit : Nat → Nat → Bool) (hf : m ≤ n → ∀ i, i < m → D 58 i = nI (mk (fit i) n)) : ∃ D', g_Sightings_countWays F D = some (iI (twy fit n m), D') ∧ ∀ c, c ≠ 59 → D' c = D c := by
  unfold g_Sightings_countWays
  rw [h0, h1]
  by_cases c : m ≤ n
  · rw [if_pos (nI_le c (by omega)), nb_shl n (by omega)]
    have p8 := pow8 hn
    obtain ⟨A, a1, a2, a3⟩ := fill_59 (F := F) (by omega) (nI 0) D
    rw [a1, ob_some]
    -- the outer loop
    obtain ⟨B, ⟨b1, b2⟩, b3⟩ := lpk0 (σ := mx_D) (fun k s => (∀ c, c ≠ 59 → s c = D c) ∧ ∀ T, T < 2 ^ n → bc T ≤ k → s 59 T = iI (wy fit n (bc T) T)) (fun f k s => g_Sightings_countWays_37 F f (nI (2 ^ n)) (nI k) s) (fun s => g_Sightings_countWays_95 F F (nI (2 ^ n)) (nI 0) (nI 0) s) (F := F) (n := m) (s := sD A 59 0 (nI 1)) (by omega) ⟨fun c hc => by rw [sD_nr _ _ _ hc, a2 c hc], fun T hT hb => by
      obtain rfl := bc_zero ⟨T, by omega⟩ (by dsimp only; omega)
      rw [sD_eq]
      rfl⟩ (fun f k s hk hI => by
      obtain ⟨i1, i2⟩ := hI
      show ∃ s', _ ∧ g_Sightings_countWays_37 F (f + 1) (nI (2 ^ n)) (nI k) s = g_Sightings_countWays_37 F f (nI (2 ^ n)) (nI (k + 1)) s'
      rw [s_Sightings_countWays_37]
      unfold b_Sightings_countWays_37
      rw [i1 57 (by decide), h0, if_neg (nI_ge hk (by omega))]
      obtain ⟨s', ⟨j1, j2⟩, j3⟩ := lpk0 (σ := mx_D) (fun a s' => (∀ c, c ≠ 59 → s' c = D c) ∧ ∀ T, T < 2 ^ n → (bc T ≤ k ∨ (bc T = k + 1 ∧ T < a)) → s' 59 T = iI (wy fit n (bc T) T)) (fun f' a s' => g_Sightings_countWays_47 F (g_Sightings_countWays_37 F f) f' (nI (2 ^ n)) (nI k) (nI a) s') (fun s' => g_Sightings_countWays_37 F f (nI (2 ^ n)) (nI (k + 1)) s') (F := F) (n := 2 ^ n) (s := s) (by omega) ⟨i1, fun T hT hb => i2 T hT (by omega)⟩ (fun f' a s' ha hJ => by
        obtain ⟨j1, j2⟩ := hJ
        show ∃ s2, _ ∧ g_Sightings_countWays_47 F (g_Sightings_countWays_37 F f) (f' + 1) (nI (2 ^ n)) (nI k) (nI a) s' = g_Sightings_countWays_47 F (g_Sightings_countWays_37 F f) f' (nI (2 ^ n)) (nI k) (nI (a + 1)) s2
        rw [s_Sightings_countWays_47]
        unfold b_Sightings_countWays_47
        have b8 := bc_8 a (by omega)
        rw [if_neg (nI_ge ha (by omega)), bitC a (by omega), nI_add, nI_add]
        by_cases e : bc a = k + 1
        · rw [if_pos (by rw [e]), rk_in (show k < 8 by omega) (by decide), nI_clamp (by omega), j1 58 (by decide), hf c k hk]
          have e57 : s' 57 1 = nI n := by rw [j1 57 (by decide), h1]
          rw [S_into_s (D := s') (F := F) (by omega) hn e57 (T := a) (k := k) (by omega) fit (fun p hp hb => by
            have b := bc_nd ⟨a, by omega⟩ ⟨p, by omega⟩ hb
            dsimp only at b
            have hlt : nand a (2 ^ p) ≤ a := nand_le (by
              rw [nand_0]
              intro i hi
              rw [nand_tb, Bool.and_eq_true] at hi
              exact hi.1)
            rw [j2 _ (by omega) (Or.inl (by omega)), show bc (nand a (2 ^ p)) = k by omega]), ob_some, rk_in (show a < 256 by omega) (by decide), nI_clamp (by omega)]
          refine ⟨_, ⟨fun c' hc' => ?_, fun T hT hb => ?_⟩, rfl⟩
          · rw [sD_nr _ _ _ hc', j1 c' hc']
          · by_cases q : T = a
            · subst q
              rw [sD_eq, e]
            · rw [sD_nj _ _ _ q]
              exact j2 T hT (by omega)
        · rw [if_neg (fun z => e ((nI_eq (by omega) (by omega)).mp z))]
          exact ⟨s', ⟨j1, fun T hT hb => j2 T hT (by
            rcases hb with q | ⟨q1, q2⟩
            · exact Or.inl q
            · by_cases q : T = a
              · subst q
                exact absurd q1 e
              · exact Or.inr ⟨q1, by omega⟩)⟩, rfl⟩) (fun f' s' hJ => by
        show g_Sightings_countWays_47 F (g_Sightings_countWays_37 F f) (f' + 1) (nI (2 ^ n)) (nI k) (nI (2 ^ n)) s' = _
        rw [s_Sightings_countWays_47]
        unfold b_Sightings_countWays_47
        rw [if_pos (nI_le (Nat.le_refl _) (by omega)), nI_add])
      exact ⟨s', ⟨j1, fun T hT hb => j2 T hT (by omega)⟩, j3⟩) (fun f s hI => by
      show g_Sightings_countWays_37 F (f + 1) (nI (2 ^ n)) (nI m) s = _
      rw [s_Sightings_countWays_37]
      unfold b_Sightings_countWays_37
      rw [hI.1 57 (by decide), h0, if_pos (nI_le (Nat.le_refl m) (by omega))])
    have b3' : g_Sightings_countWays_37 F F (nI (2 ^ n)) (nI 0) (sD A 59 0 (nI 1)) = g_Sightings_countWays_95 F F (nI (2 ^ n)) (nI 0) (nI 0) B := b3
    rw [b3']
    refine ⟨B, ?_, b1⟩
    have e : twy fit n m = sg (2 ^ n) (fun T => wy fit n m T) := sg_up p8 (fun T h3 h4 => wy_z fit hn h4 (fun z => by omega))
    rw [e]
    refine lu0 (fun f a => g_Sightings_countWays_95 F f (nI (2 ^ n)) (iI (sg a (fun T => wy fit n m T))) (nI a) B) (n := 2 ^ n) _ (by omega) (fun f a ha => ?_) (fun f => ?_)
    · rw [s_Sightings_countWays_95]
      unfold b_Sightings_countWays_95
      have b8 := bc_8 a (by omega)
      rw [if_neg (nI_ge ha (by omega)), bitC a (by omega), b1 57 (by decide), h0, nI_add, sg_s]
      by_cases q : bc a = m
      · rw [if_pos (by rw [q]), rk_in (show a < 256 by omega) (by decide), nI_clamp (by omega), b2 a ha (by omega), iI_add, q]
      · rw [if_neg (fun z => q ((nI_eq (by omega) (by omega)).mp z)), wy_z fit hn (by omega) (fun z => q z.1), iI_nI 0, iI_add]
        rfl
    · rw [s_Sightings_countWays_95]
      unfold b_Sightings_countWays_95
      rw [if_pos (nI_le (Nat.le_refl _) (by omega))]
  · rw [if_neg (nI_ge (by omega) (by omega)), twy_z fit hn (by omega)]
    exact ⟨D, rfl, fun _ _ => rfl⟩
end SG
