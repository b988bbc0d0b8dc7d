/-! ===== settle: the least sawing, or none ===== -/
section SE
variable {D : mx_D} {w : W_} {F : Nat}
theorem S_settle_s (hF : 100 ≤ F) (hW : WF w) {hs : Nat → Int} (hb : ∀ x, x < nA w → -9000 < hs x ∧ hs x < 9000) (hT : HT D (nA w) hs (pM w) (sM w) (ba w)) {S : Nat} (hS : sub S (nA w)) (hst : ∀ x, S.testBit x = true → st w x = true) {L : Int} (hL : 0 ≤ L) (hL2 : L ≤ 100000) {m0 : Nat → Int} (h0 : ∀ p, p < 4 → D 38 p = iI (m0 p) ∧ D 39 p = nI (RM w p) ∧ 0 ≤ m0 p ∧ m0 p ≤ RM w p) : ∃ b D', g_Sawing_settle F (nI S) (iI L) D = some (b01 b, D') ∧ (∀ c, c < 38 ∨ c = 39 ∨ 42 < c → D' c = D c) ∧ if b = true then ∃ m, (∀ p, p < 4 → D' 38 p = iI (m p)) ∧ LEA w hs S L m0 m else ∀ m, ¬ SOL w hs S L m0 m := by
  have h8 := wf_A8 hW
  have hb2 : ∀ x, x < nA w → -10000 < hs x ∧ hs x < 10000 := fun x hx => by have := hb x hx; omega
  have hR : ∀ p, p < 4 → RM w p ≤ 9 := fun p hp => RM_9 hW hp
  have h09 : ∀ p, p < 4 → 0 ≤ m0 p ∧ m0 p ≤ 9 := fun p hp => by
    have := h0 p hp
    have := hR p hp
    omega
  have s9 : ∀ m', SOL w hs S L m0 m' → ∀ p, p < 4 → 0 ≤ m' p ∧ m' p ≤ 9 := fun m' hm p hp => by
    have q1 := hm.1 p hp
    have q2 := h0 p hp
    have q3 := hR p hp
    omega
  unfold g_Sawing_settle
  rw [hT.2.2.2]
  cases hba : ba w
  · have ab := apa_b (pm := pM w) (b := ba w) h8 hS hb2
    rw [if_pos zb0]
    have hT' := hT
    rw [H_apart_s hF h8 hT' hb2 hS, ob_some]
    have cmp : iI L < iI (apa hs (pM w) (ba w) S) ↔ L < apa hs (pM w) (ba w) S := iI_lt (by omega) (by omega) (by omega) (by omega)
    by_cases c : L < apa hs (pM w) (ba w) S
    · rw [if_pos (cmp.mpr c)]
      refine ⟨false, D, rfl, fun _ _ => rfl, ?_⟩
      rw [if_neg (by decide)]
      intro m hm
      have e := offI_row hW hba hb hS (s9 m hm)
      have := hm.2
      omega
    · rw [if_neg (fun q => c (cmp.mp q))]
      refine ⟨true, D, rfl, fun _ _ => rfl, ?_⟩
      rw [if_pos rfl]
      refine ⟨m0, fun p hp => (h0 p hp).1, ⟨fun p hp => ⟨Int.le_refl _, (h0 p hp).2.2.2⟩, ?_⟩, fun m' hm p hp => (hm.1 p hp).1⟩
      rw [offI_row hW hba hb hS h09]
      omega
  · rw [if_neg zb1]
    obtain ⟨A, a1, a2, a3⟩ := S_measure_s hF hW hb hT hS
    rw [a1, ob_some]
    have tb : ∀ p, p < 4 → tk w S p = true → (-9000 < tt w hs S p ∧ tt w hs S p < 9000) ∧ -9000 < lw w hs S p ∧ lw w hs S p < 9000 := fun p hp ht => by
      obtain ⟨⟨x, x1, x2, x3, x4⟩, ⟨y, y1, y2, y3, y4⟩⟩ := tk_at hW hb hS hp ht
      rw [← x4, ← y4]
      exact ⟨hb x (hS x x1), hb y (hS y y1)⟩
    obtain ⟨r, r1, r2, r3⟩ := lp (fun t (s : mx_D) => (∀ c, c ≠ 38 → s c = A c) ∧ ∃ m : Nat → Int, (∀ p, p < 4 → s 38 p = iI (m p)) ∧ (∀ p, p < 4 → m0 p ≤ m p ∧ m p ≤ RM w p) ∧ (∀ m', SOL w hs S L m0 m' → ∀ p, p < 4 → m p ≤ m' p) ∧ (t : Int) ≤ m 0 + m 1 + m 2 + m 3) (fun (r : Int32 × mx_D) => (∀ c, c ≠ 38 → r.2 c = A c) ∧ ∃ b, r.1 = b01 b ∧ if b = true then ∃ m, (∀ p, p < 4 → r.2 38 p = iI (m p)) ∧ LEA w hs S L m0 m else ∀ m, ¬ SOL w hs S L m0 m) (fun f t s => g_Sawing_settle_31 F f (iI L) (nI t) s) 40 (fun f t s ht hI => by
      obtain ⟨i0, m, i1, i2, i3, i4⟩ := hI
      have m9 : ∀ p, p < 4 → 0 ≤ m p ∧ m p ≤ 9 := fun p hp => by
        have q1 := i2 p hp
        have q2 := h0 p hp
        have q3 := hR p hp
        omega
      obtain ⟨v, v1, v2⟩ := S_lowest_s (D := s) (F := F) hF (T := tk w S) (l := lw w hs S) (m := m) (fun p hp => ⟨by rw [i0 40 (by decide)]; exact (a3 p hp).1, fun hT => by rw [i0 41 (by decide)]; exact ((a3 p hp).2 hT).1, i1 p hp⟩) (fun p hp hT => by have := tb p hp hT; have := m9 p hp; omega)
      have vb : -9100 ≤ v ∧ v ≤ 9000 := by
        rcases v2 with ⟨q, -⟩ | ⟨⟨q, q1, q2, q3⟩, -⟩
        · omega
        · have := tb q q1 q2
          have := m9 q q1
          omega
      -- no sawing leaves anyone above what the lowest lets
      have K1 : ∀ m', SOL w hs S L m0 m' → ∀ p, p < 4 → tk w S p = true → tt w hs S p - m' p ≤ v + L := fun m' hm p hp hT => by
        have ho := (offI_all hW hba hb hS hst (s9 m' hm) hL).mp hm.2
        rcases v2 with ⟨-, q⟩ | ⟨⟨q, q1, q2, q3⟩, -⟩
        · rw [q p hp] at hT
          exact absurd hT (by decide)
        · have := ho p q hp q1 hT q2
          have := i3 m' hm q q1
          omega
      have inner : ∀ k p f' (s' : mx_D) (mm : Nat → Int) (ch : Bool), p + k = 4 → k < f' → (∀ c, c ≠ 38 → s' c = A c) → (∀ q, q < 4 → s' 38 q = iI (mm q)) → (∀ q, q < 4 → m q ≤ mm q ∧ mm q ≤ RM w q) → (∀ q, p ≤ q → q < 4 → mm q = m q) → (∀ m', SOL w hs S L m0 m' → ∀ q, q < 4 → mm q ≤ m' q) → (ch = false → (∀ q, q < 4 → mm q = m q) ∧ ∀ q, q < p → tk w S q = true → tt w hs S q - m q ≤ v + L) → (ch = true → m 0 + m 1 + m 2 + m 3 + 1 ≤ mm 0 + mm 1 + mm 2 + mm 3) → (∃ D', g_Sawing_settle_52 F (g_Sawing_settle_31 F f) f' (iI L) (nI t) (iI (v + L)) (b01 ch) (nI p) s' = some (nI 0, D') ∧ (∀ c, c ≠ 38 → D' c = A c) ∧ ∀ m', ¬ SOL w hs S L m0 m') ∨ ∃ (s2 : mx_D) (m2 : Nat → Int) (ch2 : Bool), g_Sawing_settle_52 F (g_Sawing_settle_31 F f) f' (iI L) (nI t) (iI (v + L)) (b01 ch) (nI p) s' = (if b01 ch2 = 0 then some (nI 1, s2) else g_Sawing_settle_31 F f (iI L) (nI (t + 1)) s2) ∧ (∀ c, c ≠ 38 → s2 c = A c) ∧ (∀ q, q < 4 → s2 38 q = iI (m2 q)) ∧ (∀ q, q < 4 → m q ≤ m2 q ∧ m2 q ≤ RM w q) ∧ (∀ m', SOL w hs S L m0 m' → ∀ q, q < 4 → m2 q ≤ m' q) ∧ (ch2 = false → (∀ q, q < 4 → m2 q = m q) ∧ ∀ q, q < 4 → tk w S q = true → tt w hs S q - m q ≤ v + L) ∧ (ch2 = true → m 0 + m 1 + m 2 + m 3 + 1 ≤ m2 0 + m2 1 + m2 2 + m2 3) := by
        intro k
        induction k with
        | zero =>
          intro p f' s' mm ch hp hf j0 j1 j2 j3 j4 j5 j6
          obtain ⟨f', rfl⟩ : ∃ g, f' = g + 1 := ⟨f' - 1, by omega⟩
          obtain rfl : p = 4 := by omega
          refine Or.inr ⟨s', mm, ch, ?_, j0, j1, j2, j4, j5, j6⟩
          rw [show g_Sawing_settle_52 F (g_Sawing_settle_31 F f) (f' + 1) = b_Sawing_settle_52 F (g_Sawing_settle_31 F f) (g_Sawing_settle_52 F (g_Sawing_settle_31 F f) f') from rfl]
          unfold b_Sawing_settle_52
          rw [if_pos (by decide), nI_add]
        | succ k ih =>
          intro p f' s' mm ch hp hf j0 j1 j2 j3 j4 j5 j6
          obtain ⟨f', rfl⟩ : ∃ g, f' = g + 1 := ⟨f' - 1, by omega⟩
          have hp4 : p < 4 := by omega
          have ep : mm p = m p := j3 p (Nat.le_refl _) hp4
          have mp9 := m9 p hp4
          have hRp := hR p hp4
          rw [show g_Sawing_settle_52 F (g_Sawing_settle_31 F f) (f' + 1) = b_Sawing_settle_52 F (g_Sawing_settle_31 F f) (g_Sawing_settle_52 F (g_Sawing_settle_31 F f) f') from rfl]
          unfold b_Sawing_settle_52
          rw [if_neg (nI_ge hp4 (by decide)), nI_clamp (show p < 2 ^ 31 by omega)]
          simp (disch := omega) only [rk_in, nI_add]
          rw [j0 40 (by decide), (a3 p hp4).1]
          cases hT : tk w S p
          · rw [if_pos zb0]
            exact ih (p + 1) f' s' mm ch (by omega) (by omega) j0 j1 j2 (fun q q1 q2 => j3 q (by omega) q2) j4 (fun e => ⟨(j5 e).1, fun q q1 q2 => by
              by_cases z : q = p
              · rw [z, hT] at q2
                exact absurd q2 (by decide)
              · exact (j5 e).2 q (by omega) q2⟩) j6
          · have tbp := tb p hp4 hT
            rw [if_neg zb1, j0 42 (by decide), ((a3 p hp4).2 hT).2, j1 p hp4, iI_sub, ep]
            have cmp : iI (tt w hs S p - m p) ≤ iI (v + L) ↔ tt w hs S p - m p ≤ v + L := iI_le (by omega) (by omega) (by omega) (by omega)
            by_cases c : tt w hs S p - m p ≤ v + L
            · rw [if_pos (cmp.mpr c)]
              exact ih (p + 1) f' s' mm ch (by omega) (by omega) j0 j1 j2 (fun q q1 q2 => j3 q (by omega) q2) j4 (fun e => ⟨(j5 e).1, fun q q1 q2 => by
                by_cases z : q = p
                · rw [z]
                  exact c
                · exact (j5 e).2 q (by omega) q2⟩) j6
            · rw [if_neg (fun q => c (cmp.mp q)), iI_sub, sD_eq, sD_ne _ _ _ _ (show 39 ≠ 38 by decide), j0 39 (by decide), a2 39 (by decide) (by decide) (by decide), (h0 p hp4).2.1]
              have cmp2 : iI (tt w hs S p - (v + L)) ≤ nI (RM w p) ↔ tt w hs S p - (v + L) ≤ RM w p := by
                rw [iI_nI]
                exact iI_le (by omega) (by omega) (by omega) (by omega)
              by_cases c2 : tt w hs S p - (v + L) ≤ RM w p
              · rw [if_pos (cmp2.mpr c2)]
                refine ih (p + 1) f' _ (fun q => if q = p then tt w hs S p - (v + L) else mm q) true (by omega) (by omega) (fun c hc => by rw [sD_nr _ _ _ hc, j0 c hc]) (fun q hq => ?_) (fun q hq => ?_) (fun q q1 q2 => ?_) (fun m' hm q hq => ?_) (fun e => absurd e (by decide)) (fun _ => ?_)
                · by_cases z : q = p
                  · subst z
                    rw [sD_eq, if_pos rfl]
                  · rw [sD_nj _ _ _ z, if_neg z]
                    exact j1 q hq
                · by_cases z : q = p
                  · subst z
                    rw [if_pos rfl]
                    omega
                  · rw [if_neg z]
                    exact j2 q hq
                · rw [if_neg (by omega)]
                  exact j3 q (by omega) q2
                · by_cases z : q = p
                  · subst z
                    have := K1 m' hm q hp4 hT
                    rw [if_pos rfl]
                    omega
                  · rw [if_neg z]
                    exact j4 m' hm q hq
                · have y0 := j2 0 (by decide)
                  have y1 := j2 1 (by decide)
                  have y2 := j2 2 (by decide)
                  have y3 := j2 3 (by decide)
                  rcases (show p = 0 ∨ p = 1 ∨ p = 2 ∨ p = 3 by omega) with z | z | z | z
                  all_goals
                    subst z
                    simp
                    omega
              · rw [if_neg (fun q => c2 (cmp2.mp q))]
                refine Or.inl ⟨_, rfl, fun c hc => by rw [sD_nr _ _ _ hc, j0 c hc], fun m' hm => ?_⟩
                have q1 := K1 m' hm p hp4 hT
                have q2 := hm.1 p hp4
                omega
      show (∃ r, g_Sawing_settle_31 F (f + 1) (iI L) (nI t) s = some r ∧ _) ∨ ∃ s', _ ∧ g_Sawing_settle_31 F (f + 1) (iI L) (nI t) s = g_Sawing_settle_31 F f (iI L) (nI (t + 1)) s'
      rw [s_Sawing_settle_31]
      unfold b_Sawing_settle_31
      rw [if_neg (nI_ge ht (by decide)), v1, ob_some, iI_add]
      rcases inner 4 0 F s m false (by omega) (by omega) i0 i1 (fun q hq => ⟨Int.le_refl _, (i2 q hq).2⟩) (fun q _ _ => rfl) i3 (fun _ => ⟨fun q _ => rfl, fun q hq => absurd hq (Nat.not_lt_zero q)⟩) (fun e => absurd e (by decide)) with ⟨D', d1, d2, d3⟩ | ⟨s2, m2, ch2, d1, d2, d3, d4, d5, d6, d7⟩
      · have d1' : g_Sawing_settle_52 F (g_Sawing_settle_31 F f) F (iI L) (nI t) (iI (v + L)) (nI 0) (nI 0) s = some (nI 0, D') := d1
        rw [d1']
        refine Or.inl ⟨_, rfl, d2, false, rfl, ?_⟩
        rw [if_neg (by decide)]
        exact d3
      · have d1' : g_Sawing_settle_52 F (g_Sawing_settle_31 F f) F (iI L) (nI t) (iI (v + L)) (nI 0) (nI 0) s = _ := d1
        rw [d1']
        cases ch2
        · obtain ⟨e1, e2⟩ := d6 rfl
          rw [if_pos zb0]
          refine Or.inl ⟨_, rfl, d2, true, rfl, ?_⟩
          rw [if_pos rfl]
          refine ⟨m2, d3, ⟨fun p hp => by rw [e1 p hp]; exact i2 p hp, ?_⟩, d5⟩
          rw [offI_all hW hba hb hS hst (fun p hp => by rw [e1 p hp]; exact m9 p hp) hL]
          intro p q hp hq tp tq
          rw [e1 p hp, e1 q hq]
          have y1 := e2 p hp tp
          rcases v2 with ⟨-, z⟩ | ⟨-, z⟩
          · rw [z p hp] at tp
            exact absurd tp (by decide)
          · have := z q hq tq
            omega
        · rw [if_neg zb1]
          refine Or.inr ⟨s2, ⟨d2, m2, d3, fun p hp => ⟨Int.le_trans (i2 p hp).1 (d4 p hp).1, (d4 p hp).2⟩, d5, ?_⟩, rfl⟩
          have := d7 rfl
          omega) (fun f s hI => by
      obtain ⟨i0, m, i1, i2, i3, i4⟩ := hI
      have q0 := i2 0 (by decide)
      have q1 := i2 1 (by decide)
      have q2 := i2 2 (by decide)
      have q3 := i2 3 (by decide)
      have z0 := hR 0 (by decide)
      have z1 := hR 1 (by decide)
      have z2 := hR 2 (by decide)
      have z3 := hR 3 (by decide)
      omega) 40 F 0 A (by omega) (by omega) ⟨fun _ _ => rfl, m0, fun p hp => by rw [a2 38 (by decide) (by decide) (by decide)]; exact (h0 p hp).1, fun p hp => ⟨Int.le_refl _, (h0 p hp).2.2.2⟩, fun m' hm p hp => (hm.1 p hp).1, by
      have q0 := h09 0 (by decide)
      have q1 := h09 1 (by decide)
      have q2 := h09 2 (by decide)
      have q3 := h09 3 (by decide)
      omega⟩
    obtain ⟨b, r4, r5⟩ := r3
    refine ⟨b, r.2, by rw [← r4]; exact r1, fun c hc => ?_, r5⟩
    rw [r2 c (by omega), a2 c (by omega) (by omega) (by omega)]
end SE
