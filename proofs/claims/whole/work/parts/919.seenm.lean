/-! ===== what was seen: the reference ===== -/
section SM
variable {F : Nat} {D : mx_D} {E : mx_E}
/-- a loop that ends at the first with p -/
theorem lpe {ρ : Type} (p : Nat → Prop) (G : Nat → Nat → ρ) (e c : ρ) (n : Nat) (hs : ∀ f a, a < n → (p a ∧ G (f + 1) a = e) ∨ (¬ p a ∧ G (f + 1) a = G f (a + 1))) (he : ∀ f, G (f + 1) n = c) : ∀ k f a, a + k = n → k < f → ((∃ b, a ≤ b ∧ b < n ∧ p b) ∧ G f a = e) ∨ ((∀ b, a ≤ b → b < n → ¬ p b) ∧ G f a = c) := by
  intro k
  induction k with
  | zero =>
    intro f a h hf
    obtain ⟨f, rfl⟩ : ∃ g, f = g + 1 := ⟨f - 1, by omega⟩
    obtain rfl : a = n := by omega
    exact Or.inr ⟨fun b h1 h2 => by omega, he f⟩
  | succ k ih =>
    intro f a h hf
    obtain ⟨f, rfl⟩ : ∃ g, f = g + 1 := ⟨f - 1, by omega⟩
    rcases hs f a (by omega) with ⟨h1, h2⟩ | ⟨h1, h2⟩
    · exact Or.inl ⟨⟨a, Nat.le_refl a, by omega, h1⟩, h2⟩
    · rw [h2]
      rcases ih f (a + 1) (by omega) (by omega) with ⟨⟨b, b1, b2, b3⟩, q⟩ | ⟨q1, q2⟩
      · exact Or.inl ⟨⟨b, by omega, b2, b3⟩, q⟩
      · refine Or.inr ⟨fun b b1 b2 => ?_, q2⟩
        by_cases e : b = a
        · subst e
          exact h1
        · exact q1 b (by omega) b2
def rw_ (E : mx_E) (s : Nat) : Nat → Int64 := fun i => E 139 (60 * s + i)
def pe (N : Nat → Int64) (i : Nat) : Nat := (N (3 * i)).toInt.toNat
def pa (N : Nat → Int64) (i : Nat) : Nat := (N (3 * i + 1)).toInt.toNat
def okp (w : W_) (N : Nat → Int64) (i : Nat) : Bool := vl (N (3 * i)) (nP w) && vl (N (3 * i + 1)) (nL w)
def sme (N : Nat → Int64) (j i : Nat) : Prop := N (3 * j) = N (3 * i) ∧ N (3 * j + 1) = N (3 * i + 1)
def bdw (w : W_) (N : Nat → Int64) (i : Nat) : Prop := okp w N i = false ∨ ∃ j, j < i ∧ sme N j i
def ftn (w : W_) (y : Nat) (N : Nat → Int64) : Nat → Nat → Bool := fun i p => decide ((iI (bod w y p + flo w (pe N i) (pa N i))).toInt64 = N (3 * i + 2))
theorem vl_c {x : Int64} {n : Nat} (hn : n < 1000) (h : vl x n = true) : x.toInt32 = nI x.toInt.toNat ∧ x.toInt.toNat < n ∧ x.toInt = (x.toInt.toNat : Int) := by
  unfold vl at h
  simp only [Bool.and_eq_true, decide_eq_true_eq] at h
  obtain ⟨h1, h2⟩ := h
  refine ⟨?_, by omega, by omega⟩
  apply Int32.toInt_inj.mp
  rw [Int64.toInt_toInt32, nI_toInt (by omega), Int.toNat_of_nonneg h1]
  rw [Int.bmod_eq_of_le] <;> omega
theorem nmb {s i : Nat} (hs : s < 4) (hi : i < 60) : g_M_numberAt E (nI s) (nI i) = some (rw_ E s i) := by
  unfold g_M_numberAt
  rw [pk_mul, nI_add, rk_in (by omega) (by decide), nI_clamp (by omega)]
  rfl
theorem okp_c {w : W_} (hW : WF w) {N : Nat → Int64} {i : Nat} (h : okp w N i = true) : (N (3 * i)).toInt32 = nI (pe N i) ∧ pe N i < nP w ∧ (N (3 * i + 1)).toInt32 = nI (pa N i) ∧ pa N i < nL w := by
  have h4 := wf_P4 hW
  have h5 := wf_L5 hW
  unfold okp at h
  rw [Bool.and_eq_true] at h
  obtain ⟨a1, a2, -⟩ := vl_c (by omega) h.1
  obtain ⟨b1, b2, -⟩ := vl_c (by omega) h.2
  exact ⟨a1, a2, b1, b2⟩
theorem M_asks_s (hF : 1000 ≤ F) (hW : WF (D 117)) {s n : Nat} (hs : s < 4) (hn : n ≤ 20) (hm : D 137 s = nI (3 * n)) : ((∃ i, i < n ∧ bdw (D 117) (rw_ E s) i) ∧ g_M_asksSeen_47 F D E F (nI s) (nI 0) = some (-2)) ∨ ((∀ i, i < n → ¬ bdw (D 117) (rw_ E s) i) ∧ g_M_asksSeen_47 F D E F (nI s) (nI 0) = some (nI 0)) := by
  have h := lpe (bdw (D 117) (rw_ E s)) (fun f i => g_M_asksSeen_47 F D E f (nI s) (nI (3 * i))) (some (-2)) (some (nI 0)) n (fun f i hi => by
    show (_ ∧ g_M_asksSeen_47 F D E (f + 1) (nI s) (nI (3 * i)) = _) ∨ (_ ∧ g_M_asksSeen_47 F D E (f + 1) (nI s) (nI (3 * i)) = g_M_asksSeen_47 F D E f (nI s) (nI (3 * (i + 1))))
    rw [s_M_asksSeen_47]
    unfold b_M_asksSeen_47
    rw [rk_in (by omega) (by decide), nI_clamp (by omega), hm, if_neg (nI_ge (by omega) (by omega)), nmb hs (by omega), ob_some, nI_add, nmb hs (by omega), ob_some, M_isPlace_s hW, b01_if]
    by_cases c : okp (D 117) (rw_ E s) i = true
    · have c' := c
      unfold okp at c'
      rw [if_pos c']
      have h2 := lpe (fun j => sme (rw_ E s) j i) (fun f' j => g_M_asksSeen_84 F D E (g_M_asksSeen_47 F D E f) f' (nI s) (nI (3 * i)) (nI (3 * j))) (some (-2)) (g_M_asksSeen_47 F D E f (nI s) (nI (3 * (i + 1)))) i (fun f' j hj => by
        show (_ ∧ g_M_asksSeen_84 F D E (g_M_asksSeen_47 F D E f) (f' + 1) (nI s) (nI (3 * i)) (nI (3 * j)) = _) ∨ (_ ∧ g_M_asksSeen_84 F D E (g_M_asksSeen_47 F D E f) (f' + 1) (nI s) (nI (3 * i)) (nI (3 * j)) = g_M_asksSeen_84 F D E (g_M_asksSeen_47 F D E f) f' (nI s) (nI (3 * i)) (nI (3 * (j + 1))))
        rw [s_M_asksSeen_84]
        unfold b_M_asksSeen_84
        rw [if_neg (nI_ge (by omega) (by omega)), nmb hs (by omega), ob_some, nmb hs (by omega), ob_some, nI_add, nI_add, nmb hs (by omega), ob_some, nmb hs (by omega), ob_some, nI_add]
        by_cases e1 : rw_ E s (3 * j) = rw_ E s (3 * i)
        · rw [if_pos ((lg_cmp_eq _ _).mpr e1)]
          by_cases e2 : rw_ E s (3 * j + 1) = rw_ E s (3 * i + 1)
          · rw [if_pos ((lg_cmp_eq _ _).mpr e2)]
            exact Or.inl ⟨⟨e1, e2⟩, rfl⟩
          · rw [if_neg (fun z => e2 ((lg_cmp_eq _ _).mp z))]
            exact Or.inr ⟨fun z => e2 z.2, rfl⟩
        · rw [if_neg (fun z => e1 ((lg_cmp_eq _ _).mp z))]
          exact Or.inr ⟨fun z => e1 z.1, rfl⟩) (fun f' => by
        show g_M_asksSeen_84 F D E (g_M_asksSeen_47 F D E f) (f' + 1) (nI s) (nI (3 * i)) (nI (3 * i)) = _
        rw [s_M_asksSeen_84]
        unfold b_M_asksSeen_84
        rw [if_pos (nI_le (Nat.le_refl _) (by omega)), nI_add]
        rfl) i F 0 (by omega) (by omega)
      rcases h2 with ⟨⟨b, -, b2, b3⟩, q⟩ | ⟨q1, q2⟩
      · exact Or.inl ⟨Or.inr ⟨b, b2, b3⟩, q⟩
      · refine Or.inr ⟨fun z => ?_, q2⟩
        rcases z with z | ⟨j, j1, j2⟩
        · rw [c] at z
          exact absurd z (by decide)
        · exact q1 j (Nat.zero_le j) j1 j2
    · have c' := c
      unfold okp at c'
      rw [if_neg c']
      exact Or.inl ⟨Or.inl (Bool.eq_false_iff.mpr c), rfl⟩) (fun f => by
    show g_M_asksSeen_47 F D E (f + 1) (nI s) (nI (3 * n)) = _
    rw [s_M_asksSeen_47]
    unfold b_M_asksSeen_47
    rw [rk_in (by omega) (by decide), nI_clamp (by omega), hm, if_pos (nI_le (Nat.le_refl _) (by omega))]) n F 0 (by omega) (by omega)
  rcases h with ⟨⟨b, -, b2, b3⟩, q⟩ | ⟨q1, q2⟩
  · exact Or.inl ⟨⟨b, b2, b3⟩, q⟩
  · exact Or.inr ⟨fun i hi => q1 i (Nat.zero_le i) hi, q2⟩
/-! a person more -/
theorem or_p {a p : Nat} (h : a.testBit p = false) : (a ||| 2 ^ p).testBit p = true ∧ nand (a ||| 2 ^ p) (2 ^ p) = a := by
  constructor
  · rw [Nat.testBit_or, Nat.testBit_two_pow_self, Bool.or_true]
  · apply Nat.eq_of_testBit_eq
    intro i
    rw [nand_tb, Nat.testBit_or, Nat.testBit_two_pow]
    by_cases e : p = i
    · subst e
      rw [h]
      simp
    · simp [e]
theorem or_u {U p : Nat} (h : U.testBit p = true) : nand U (2 ^ p) ||| 2 ^ p = U := by
  apply Nat.eq_of_testBit_eq
  intro i
  rw [Nat.testBit_or, nand_tb, Nat.testBit_two_pow]
  by_cases e : p = i
  · subst e
    rw [h]
    simp
  · simp [e]
theorem nand_p {U p : Nat} : (nand U (2 ^ p)).testBit p = false := by
  rw [nand_tb, Nat.testBit_two_pow_self]
  simp
theorem M_push_s (hF : 1000 ≤ F) {p : Nat} (hp : p < 8) {V B : Nat → Int} {s : mx_D} (h1 : ∀ T, T < 256 → s 134 T = iI (V T)) (h2 : ∀ U, U < 256 → s 135 U = iI (B U)) (k39 : Int32 → Int32 → Int32 → Int32 → Int32 → mx_D → Option (Int32 × mx_D)) (k110 : Int32 → Int32 → Int32 → Int32 → Int32 → Int32 → Int32 → mx_D → Option (Int32 × mx_D)) (l1 l2 l3 l4 l5 l6 : Int32) : ∃ s', ((∀ c, c ≠ 135 → s' c = s c) ∧ ∀ U, U < 256 → s' 135 U = iI (B U + if U.testBit p = true then V (nand U (2 ^ p)) else 0)) ∧ g_M_seenBy_166 F E k39 k110 F l1 l2 l3 l4 l5 l6 (nI p) (nI 0) s = k110 l1 l2 l3 l4 l5 l6 (nI (p + 1)) s' := by
  obtain ⟨s', ⟨j1, j2⟩, j3⟩ := lpk0 (σ := mx_D) (fun a s' => (∀ c, c ≠ 135 → s' c = s c) ∧ ∀ U, U < 256 → s' 135 U = iI (B U + if U.testBit p = true ∧ nand U (2 ^ p) < a then V (nand U (2 ^ p)) else 0)) (fun f a s' => g_M_seenBy_166 F E k39 k110 f l1 l2 l3 l4 l5 l6 (nI p) (nI a) s') (fun s' => k110 l1 l2 l3 l4 l5 l6 (nI (p + 1)) s') (F := F) (n := 256) (s := s) (by omega) ⟨fun _ _ => rfl, fun U hU => by rw [if_neg (fun z => Nat.not_lt_zero _ z.2), Int.add_zero, h2 U hU]⟩ (fun f a s' ha hI => by
    obtain ⟨i1, i2⟩ := hI
    show ∃ s2, _ ∧ g_M_seenBy_166 F E k39 k110 (f + 1) l1 l2 l3 l4 l5 l6 (nI p) (nI a) s' = g_M_seenBy_166 F E k39 k110 f l1 l2 l3 l4 l5 l6 (nI p) (nI (a + 1)) s2
    rw [s_M_seenBy_166]
    unfold b_M_seenBy_166
    rw [if_neg (nI_ge ha (by decide)), nb_bit (by omega) (by omega), nI_add, nb_shl p (by omega), nb_or]
    cases hb : a.testBit p
    · rw [if_neg (show ¬ false = true by decide), if_pos (show nI 0 = 0 from rfl)]
      obtain ⟨o1, o2⟩ := or_p hb
      have o3 : a ||| 2 ^ p < 256 := Nat.or_lt_two_pow (n := 8) ha (Nat.pow_lt_pow_right (by decide) hp)
      rw [rk_in o3 (by decide), rk_in ha (by decide), rk_in o3 (by decide), nI_clamp (by omega), nI_clamp (by omega), i1 134 (by decide), h1 a ha, i2 _ o3, o1, o2, if_neg (fun z => Nat.lt_irrefl a z.2), iI_add, Int.add_zero]
      refine ⟨_, ⟨fun c hc => ?_, fun U hU => ?_⟩, rfl⟩
      · rw [sD_nr _ _ _ hc, i1 c hc]
      · by_cases e : U = a ||| 2 ^ p
        · subst e
          rw [sD_eq, o1, o2, if_pos ⟨rfl, Nat.lt_succ_self a⟩]
        · rw [sD_nj _ _ _ e, i2 U hU]
          have : (U.testBit p = true ∧ nand U (2 ^ p) < a + 1) ↔ (U.testBit p = true ∧ nand U (2 ^ p) < a) := by
            constructor
            · intro z
              refine ⟨z.1, ?_⟩
              have : nand U (2 ^ p) ≠ a := fun q => e (by rw [← q, or_u z.1])
              omega
            · intro z
              exact ⟨z.1, by omega⟩
          simp only [this]
    · rw [if_pos rfl, if_neg (show ¬ nI 1 = 0 by decide)]
      refine ⟨s', ⟨i1, fun U hU => ?_⟩, rfl⟩
      rw [i2 U hU]
      have : (U.testBit p = true ∧ nand U (2 ^ p) < a + 1) ↔ (U.testBit p = true ∧ nand U (2 ^ p) < a) := by
        constructor
        · intro z
          refine ⟨z.1, ?_⟩
          have : nand U (2 ^ p) ≠ a := fun q => by
            have := nand_p (U := U) (p := p)
            rw [q, hb] at this
            exact absurd this (by decide)
          omega
        · intro z
          exact ⟨z.1, by omega⟩
      simp only [this]) (fun f s' hI => by
    show g_M_seenBy_166 F E k39 k110 (f + 1) l1 l2 l3 l4 l5 l6 (nI p) (nI 256) s' = _
    rw [s_M_seenBy_166]
    unfold b_M_seenBy_166
    rw [if_pos (nI_le (Nat.le_refl _) (by decide)), nI_add])
  refine ⟨s', ⟨j1, fun U hU => ?_⟩, j3⟩
  rw [j2 U hU]
  have hlt : nand U (2 ^ p) < 256 := nand_256 hU
  have : (U.testBit p = true ∧ nand U (2 ^ p) < 256) ↔ U.testBit p = true := ⟨fun z => z.1, fun z => ⟨z, hlt⟩⟩
  simp only [this]
def fmy (fit : Nat → Nat → Bool) (a3 a4 : Int32) : Nat → Nat → Bool := fun j q => fit j q && (if nI j = a3 then decide (nI q = a4) else true)
theorem M_seenBy_s (hF : 1000 ≤ F) (hW : WF (D 117)) {s n y : Nat} (hs : s < 4) (hn : n ≤ 20) (hm : D 137 s = nI (3 * n)) (hok : ∀ i, i < n → okp (D 117) (rw_ E s) i = true) (a3 a4 : Int32) : ∃ D', g_M_seenBy F E (nI s) (nI y) a3 a4 D = some (iI (twy (fmy (ftn (D 117) y (rw_ E s)) a3 a4) (nA (D 117)) n), D') ∧ ∀ c, c ≠ 134 → c ≠ 135 → D' c = D c := by
  have h8 := wf_A8 hW
  have hP4 := wf_P4 hW
  have hL5 := wf_L5 hW
  generalize hw : D 117 = w at hW hok h8 hP4 hL5
  generalize hfit : fmy (ftn w y (rw_ E s)) a3 a4 = fit
  unfold g_M_seenBy
  -- the first ways
  obtain ⟨A, ⟨a1, a2⟩, e1⟩ := lpk0 (σ := mx_D) (fun a s' => (∀ c, c ≠ 134 → s' c = D c) ∧ ∀ T, T < a → s' 134 T = iI (wy fit (nA w) 0 T)) (fun f a s' => g_M_seenBy_3 F E f (nI s) (nI y) a3 a4 (nI a) s') (fun s' => g_M_seenBy_39 F E F (nI s) (nI y) a3 a4 (nI 0) s') (F := F) (n := 256) (s := D) (by omega) ⟨fun _ _ => rfl, fun T hT => absurd hT (Nat.not_lt_zero T)⟩ (fun f a s' ha hI => by
    obtain ⟨i1, i2⟩ := hI
    show ∃ s2, _ ∧ g_M_seenBy_3 F E (f + 1) (nI s) (nI y) a3 a4 (nI a) s' = g_M_seenBy_3 F E f (nI s) (nI y) a3 a4 (nI (a + 1)) s2
    rw [s_M_seenBy_3]
    unfold b_M_seenBy_3
    rw [if_neg (nI_ge ha (by decide)), rk_in ha (by decide), rk_in ha (by decide), nI_clamp (by omega), nI_add]
    have hz := nI_z a (by omega)
    by_cases z : a = 0
    · subst z
      rw [if_pos (show nI 0 = 0 from rfl)]
      refine ⟨_, ⟨fun c hc => by rw [sD_nr _ _ _ hc, i1 c hc], fun T hT => ?_⟩, rfl⟩
      obtain rfl : T = 0 := by omega
      rw [sD_eq]
      rfl
    · rw [if_neg (fun q => z (hz.mp q))]
      refine ⟨_, ⟨fun c hc => by rw [sD_nr _ _ _ hc, i1 c hc], fun T hT => ?_⟩, rfl⟩
      by_cases e : T = a
      · subst e
        rw [sD_eq]
        unfold wy
        rw [if_neg z]
        rfl
      · rw [sD_nj _ _ _ e]
        exact i2 T (by omega)) (fun f s' _ => by
    show g_M_seenBy_3 F E (f + 1) (nI s) (nI y) a3 a4 (nI 256) s' = _
    rw [s_M_seenBy_3]
    unfold b_M_seenBy_3
    rw [if_pos (nI_le (Nat.le_refl _) (by decide))])
  have e1' : g_M_seenBy_3 F E F (nI s) (nI y) a3 a4 (nI 0) D = g_M_seenBy_39 F E F (nI s) (nI y) a3 a4 (nI 0) A := e1
  rw [e1']
  -- sighting by sighting
  obtain ⟨B, ⟨b1, b2⟩, e2⟩ := lpk0 (σ := mx_D) (fun k s' => (∀ c, c ≠ 134 → c ≠ 135 → s' c = D c) ∧ ∀ T, T < 256 → s' 134 T = iI (wy fit (nA w) k T)) (fun f k s' => g_M_seenBy_39 F E f (nI s) (nI y) a3 a4 (nI k) s') (fun s' => g_M_seenBy_265 F E F (nI 0) (nI 0) s') (F := F) (n := n) (s := A) (by omega) ⟨fun c q1 _ => a1 c q1, fun T hT => a2 T hT⟩ (fun f k s' hk hI => by
    obtain ⟨i1, i2⟩ := hI
    show ∃ s2, _ ∧ g_M_seenBy_39 F E (f + 1) (nI s) (nI y) a3 a4 (nI k) s' = g_M_seenBy_39 F E f (nI s) (nI y) a3 a4 (nI (k + 1)) s2
    rw [s_M_seenBy_39]
    unfold b_M_seenBy_39
    obtain ⟨p1, p2, p3, p4⟩ := okp_c hW (hok k hk)
    rw [rk_in (by omega) (by decide), nI_clamp (by omega), i1 137 (by decide) (by decide), hm, pk_mul, if_neg (nI_ge (by omega) (by omega)), nmb hs (by omega), ob_some, nI_add, nmb hs (by omega), ob_some, p1, p3, M_floorOf_s s' (by omega) (by omega), ob_some, i1 117 (by decide) (by decide), hw]
    -- emptied
    obtain ⟨Z, ⟨z1, z2⟩, e3⟩ := lpk0 (σ := mx_D) (fun a x => (∀ c, c ≠ 135 → x c = s' c) ∧ ∀ T, T < a → x 135 T = iI 0) (fun f' a x => g_M_seenBy_83 F E (g_M_seenBy_39 F E f) f' (nI s) (nI y) a3 a4 (nI k) (iI (flo w (pe (rw_ E s) k) (pa (rw_ E s) k))) (nI a) x) (fun x => g_M_seenBy_110 F E (g_M_seenBy_39 F E f) F (nI s) (nI y) a3 a4 (nI k) (iI (flo w (pe (rw_ E s) k) (pa (rw_ E s) k))) (nI 0) x) (F := F) (n := 256) (s := s') (by omega) ⟨fun _ _ => rfl, fun T hT => absurd hT (Nat.not_lt_zero T)⟩ (fun f' a x ha hI => by
      show ∃ s2, _ ∧ g_M_seenBy_83 F E (g_M_seenBy_39 F E f) (f' + 1) (nI s) (nI y) a3 a4 (nI k) (iI (flo w (pe (rw_ E s) k) (pa (rw_ E s) k))) (nI a) x = g_M_seenBy_83 F E (g_M_seenBy_39 F E f) f' (nI s) (nI y) a3 a4 (nI k) (iI (flo w (pe (rw_ E s) k) (pa (rw_ E s) k))) (nI (a + 1)) s2
      rw [s_M_seenBy_83]
      unfold b_M_seenBy_83
      rw [if_neg (nI_ge ha (by decide)), rk_in ha (by decide), nI_clamp (by omega), nI_add]
      refine ⟨_, ⟨fun c hc => by rw [sD_nr _ _ _ hc, hI.1 c hc], fun T hT => ?_⟩, rfl⟩
      by_cases e : T = a
      · subst e
        rw [sD_eq]
        rfl
      · rw [sD_nj _ _ _ e]
        exact hI.2 T (by omega)) (fun f' x _ => by
      show g_M_seenBy_83 F E (g_M_seenBy_39 F E f) (f' + 1) (nI s) (nI y) a3 a4 (nI k) (iI (flo w (pe (rw_ E s) k) (pa (rw_ E s) k))) (nI 256) x = _
      rw [s_M_seenBy_83]
      unfold b_M_seenBy_83
      rw [if_pos (nI_le (Nat.le_refl _) (by decide))])
    -- person by person
    obtain ⟨Y, ⟨y1, y2⟩, e4⟩ := lpk0 (σ := mx_D) (fun p x => (∀ c, c ≠ 135 → x c = s' c) ∧ ∀ U, U < 256 → x 135 U = iI (sg p (fun q => if U.testBit q = true ∧ fit k q = true then wy fit (nA w) k (nand U (2 ^ q)) else 0))) (fun f' p x => g_M_seenBy_110 F E (g_M_seenBy_39 F E f) f' (nI s) (nI y) a3 a4 (nI k) (iI (flo w (pe (rw_ E s) k) (pa (rw_ E s) k))) (nI p) x) (fun x => g_M_seenBy_223 F E (g_M_seenBy_39 F E f) F (nI s) (nI y) a3 a4 (nI k) (nI 0) x) (F := F) (n := nA w) (s := Z) (by omega) ⟨z1, z2⟩ (fun f' p x hp hI => by
      obtain ⟨x1, x2⟩ := hI
      show ∃ s2, _ ∧ g_M_seenBy_110 F E (g_M_seenBy_39 F E f) (f' + 1) (nI s) (nI y) a3 a4 (nI k) (iI (flo w (pe (rw_ E s) k) (pa (rw_ E s) k))) (nI p) x = g_M_seenBy_110 F E (g_M_seenBy_39 F E f) f' (nI s) (nI y) a3 a4 (nI k) (iI (flo w (pe (rw_ E s) k) (pa (rw_ E s) k))) (nI (p + 1)) s2
      have ex : x 117 = w := by rw [x1 117 (by decide), i1 117 (by decide) (by decide), hw]
      rw [s_M_seenBy_110]
      unfold b_M_seenBy_110
      rw [ex, wf_A hW, if_neg (nI_ge hp (by omega)), M_bodyOf_s (D := x) (F := F) (by omega) (by rw [ex]; exact hW) (by rw [ex]; exact hp) y, ob_some, ex, pk_mul, nI_add, nmb hs (by omega), ob_some, iI_add, nI_add]
      have efit : fit k p = (decide ((iI (bod w y p + flo w (pe (rw_ E s) k) (pa (rw_ E s) k))).toInt64 = rw_ E s (3 * k + 2)) && (if nI k = a3 then decide (nI p = a4) else true)) := by
        rw [← hfit]
        rfl
      obtain ⟨x', ⟨v1, v2⟩, v3⟩ := M_push_s (F := F) (E := E) hF (p := p) (by omega) (s := x) (V := wy fit (nA w) k) (B := fun U => sg p (fun q => if U.testBit q = true ∧ fit k q = true then wy fit (nA w) k (nand U (2 ^ q)) else 0)) (fun T hT => by rw [x1 134 (by decide), i2 T hT]) x2 (g_M_seenBy_39 F E f) (g_M_seenBy_110 F E (g_M_seenBy_39 F E f) f') (nI s) (nI y) a3 a4 (nI k) (iI (flo w (pe (rw_ E s) k) (pa (rw_ E s) k)))
      have yes : fit k p = true → ∃ s2, ((∀ c, c ≠ 135 → s2 c = s' c) ∧ ∀ U, U < 256 → s2 135 U = iI (sg (p + 1) (fun q => if U.testBit q = true ∧ fit k q = true then wy fit (nA w) k (nand U (2 ^ q)) else 0))) ∧ g_M_seenBy_166 F E (g_M_seenBy_39 F E f) (g_M_seenBy_110 F E (g_M_seenBy_39 F E f) f') F (nI s) (nI y) a3 a4 (nI k) (iI (flo w (pe (rw_ E s) k) (pa (rw_ E s) k))) (nI p) (nI 0) x = g_M_seenBy_110 F E (g_M_seenBy_39 F E f) f' (nI s) (nI y) a3 a4 (nI k) (iI (flo w (pe (rw_ E s) k) (pa (rw_ E s) k))) (nI (p + 1)) s2 := fun hy => ⟨x', ⟨fun c hc => by rw [v1 c hc, x1 c hc], fun U hU => by
        rw [v2 U hU, sg_s, hy]
        congr 2
        by_cases c : U.testBit p = true
        · rw [if_pos c, if_pos ⟨c, rfl⟩]
        · rw [if_neg c, if_neg (fun z => c z.1)]⟩, v3⟩
      have no : fit k p = false → ∃ s2, ((∀ c, c ≠ 135 → s2 c = s' c) ∧ ∀ U, U < 256 → s2 135 U = iI (sg (p + 1) (fun q => if U.testBit q = true ∧ fit k q = true then wy fit (nA w) k (nand U (2 ^ q)) else 0))) ∧ g_M_seenBy_110 F E (g_M_seenBy_39 F E f) f' (nI s) (nI y) a3 a4 (nI k) (iI (flo w (pe (rw_ E s) k) (pa (rw_ E s) k))) (nI (p + 1)) x = g_M_seenBy_110 F E (g_M_seenBy_39 F E f) f' (nI s) (nI y) a3 a4 (nI k) (iI (flo w (pe (rw_ E s) k) (pa (rw_ E s) k))) (nI (p + 1)) s2 := fun hy => ⟨x, ⟨x1, fun U hU => by
        rw [x2 U hU, sg_s, hy, if_neg (fun z => absurd z.2 (by decide)), Int.add_zero]⟩, rfl⟩
      by_cases c1 : (iI (bod w y p + flo w (pe (rw_ E s) k) (pa (rw_ E s) k))).toInt64 = rw_ E s (3 * k + 2)
      · rw [if_pos ((lg_cmp_eq _ _).mpr c1)]
        rw [decide_eq_true c1, Bool.true_and] at efit
        by_cases c2 : nI k = a3
        · rw [if_pos c2] at efit ⊢
          by_cases c3 : nI p = a4
          · rw [if_pos c3]
            exact yes (by rw [efit, decide_eq_true c3])
          · rw [if_neg c3]
            exact no (by rw [efit, decide_eq_false c3])
        · rw [if_neg c2] at efit ⊢
          exact yes efit
      · rw [if_neg (fun z => c1 ((lg_cmp_eq _ _).mp z))]
        exact no (by rw [efit, decide_eq_false c1, Bool.false_and])) (fun f' x hI => by
      show g_M_seenBy_110 F E (g_M_seenBy_39 F E f) (f' + 1) (nI s) (nI y) a3 a4 (nI k) (iI (flo w (pe (rw_ E s) k) (pa (rw_ E s) k))) (nI (nA w)) x = _
      have ex : x 117 = w := by rw [hI.1 117 (by decide), i1 117 (by decide) (by decide), hw]
      rw [s_M_seenBy_110]
      unfold b_M_seenBy_110
      rw [ex, wf_A hW, if_pos (nI_le (Nat.le_refl _) (by omega))])
    -- taken over
    obtain ⟨C, ⟨c1, c2⟩, e5⟩ := lpk0 (σ := mx_D) (fun a x => (∀ c, c ≠ 134 → x c = Y c) ∧ ∀ T, T < a → x 134 T = Y 135 T) (fun f' a x => g_M_seenBy_223 F E (g_M_seenBy_39 F E f) f' (nI s) (nI y) a3 a4 (nI k) (nI a) x) (fun x => g_M_seenBy_39 F E f (nI s) (nI y) a3 a4 (nI (k + 1)) x) (F := F) (n := 256) (s := Y) (by omega) ⟨fun _ _ => rfl, fun T hT => absurd hT (Nat.not_lt_zero T)⟩ (fun f' a x ha hI => by
      show ∃ s2, _ ∧ g_M_seenBy_223 F E (g_M_seenBy_39 F E f) (f' + 1) (nI s) (nI y) a3 a4 (nI k) (nI a) x = g_M_seenBy_223 F E (g_M_seenBy_39 F E f) f' (nI s) (nI y) a3 a4 (nI k) (nI (a + 1)) s2
      rw [s_M_seenBy_223]
      unfold b_M_seenBy_223
      rw [if_neg (nI_ge ha (by decide)), rk_in ha (by decide), rk_in ha (by decide), nI_clamp (by omega), nI_add]
      refine ⟨_, ⟨fun c hc => by rw [sD_nr _ _ _ hc, hI.1 c hc], fun T hT => ?_⟩, rfl⟩
      by_cases e : T = a
      · subst e
        rw [sD_eq, hI.1 135 (by decide)]
      · rw [sD_nj _ _ _ e]
        exact hI.2 T (by omega)) (fun f' x _ => by
      show g_M_seenBy_223 F E (g_M_seenBy_39 F E f) (f' + 1) (nI s) (nI y) a3 a4 (nI k) (nI 256) x = _
      rw [s_M_seenBy_223]
      unfold b_M_seenBy_223
      rw [if_pos (nI_le (Nat.le_refl _) (by decide)), nI_add])
    exact ⟨C, ⟨fun c q1 q2 => by rw [c1 c q1, y1 c q2, i1 c q1 q2], fun T hT => by rw [c2 T hT, y2 T hT, wy_s]⟩, e3.trans (e4.trans e5)⟩) (fun f s' hI => by
    show g_M_seenBy_39 F E (f + 1) (nI s) (nI y) a3 a4 (nI n) s' = _
    rw [s_M_seenBy_39]
    unfold b_M_seenBy_39
    rw [rk_in (by omega) (by decide), nI_clamp (by omega), hI.1 137 (by decide) (by decide), hm, pk_mul, if_pos (nI_le (Nat.le_refl _) (by omega))])
  have e2' : g_M_seenBy_39 F E F (nI s) (nI y) a3 a4 (nI 0) A = g_M_seenBy_265 F E F (nI 0) (nI 0) B := e2
  rw [e2']
  refine ⟨B, ?_, b1⟩
  refine lu0 (fun f a => g_M_seenBy_265 F E f (iI (sg a (fun T => wy fit (nA w) n T))) (nI a) B) (n := 256) _ (by omega) (fun f a ha => ?_) (fun f => ?_)
  · rw [s_M_seenBy_265]
    unfold b_M_seenBy_265
    rw [if_neg (nI_ge ha (by decide)), rk_in ha (by decide), nI_clamp (by omega), b2 a ha, iI_add, nI_add, sg_s]
  · rw [s_M_seenBy_265]
    unfold b_M_seenBy_265
    rw [if_pos (nI_le (Nat.le_refl _) (by decide))]
    rfl
end SM
