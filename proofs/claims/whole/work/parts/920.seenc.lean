/-! ===== what was seen: the class's reading of the rows ===== -/
section SC
variable {F : Nat} {D : mx_D} {E : mx_E} {w : W_}
theorem vl_s {α : Type} (x : Int64) {a : Nat} (ha : a < 1000) (P Q : α) : (if lg_cmp x (lN 0) < 0 then P else if 0 ≤ lg_cmp x (nI a).toInt64 then P else Q) = if vl x a = true then Q else P := by
  unfold vl
  have e0 : (lN 0).toInt = 0 := lN_toInt (by decide)
  have ea : ((nI a).toInt64).toInt = (a : Int) := by rw [Int32.toInt_toInt64, nI_toInt (by omega)]
  have c1 : lg_cmp x (lN 0) < 0 ↔ x.toInt < 0 := by rw [lg_cmp_lt, Int64.lt_iff_toInt_lt, e0]
  have c2 : 0 ≤ lg_cmp x (nI a).toInt64 ↔ (a : Int) ≤ x.toInt := by rw [lg_cmp_ge, Int64.le_iff_toInt_le, ea]
  by_cases h1 : x.toInt < 0
  · rw [if_pos (c1.mpr h1), decide_eq_false (show ¬ 0 ≤ x.toInt by omega), Bool.false_and, if_neg (by decide)]
  · rw [if_neg (fun z => h1 (c1.mp z)), decide_eq_true (show 0 ≤ x.toInt by omega), Bool.true_and]
    by_cases h2 : (a : Int) ≤ x.toInt
    · rw [if_pos (c2.mpr h2), decide_eq_false (show ¬ x.toInt < a by omega), if_neg (by decide)]
    · rw [if_neg (fun z => h2 (c2.mp z)), decide_eq_true (show x.toInt < a by omega), if_pos rfl]
/-- unlike places are unlike numbers -/
def cd5 (N : Nat → Int64) (i : Nat) : Nat := pe N i * 5 + pa N i
theorem cd5_lt (hW : WF w) {N : Nat → Int64} {i : Nat} (h : okp w N i = true) : cd5 N i < 20 := by
  obtain ⟨-, h1, -, h2⟩ := okp_c hW h
  have h4 := wf_P4 hW
  have h5 := wf_L5 hW
  unfold cd5
  omega
theorem cd5_s (hW : WF w) {N : Nat → Int64} {i j : Nat} (h : okp w N i = true) (h' : okp w N j = true) : cd5 N j = cd5 N i ↔ sme N j i := by
  obtain ⟨-, h1, -, h2⟩ := okp_c hW h
  obtain ⟨-, g1, -, g2⟩ := okp_c hW h'
  have h4 := wf_P4 hW
  have h5 := wf_L5 hW
  unfold okp at h h'
  rw [Bool.and_eq_true] at h h'
  have a1 := (vl_c (by omega) h.1).2.2
  have a2 := (vl_c (by omega) h.2).2.2
  have a3 := (vl_c (by omega) h'.1).2.2
  have a4 := (vl_c (by omega) h'.2).2.2
  unfold cd5 sme
  unfold pe pa at *
  constructor
  · intro e
    exact ⟨Int64.toInt_inj.mp (by omega), Int64.toInt_inj.mp (by omega)⟩
  · intro ⟨e1, e2⟩
    rw [e1, e2]
def gud (w : W_) (N : Nat → Int64) (m : Nat) : Prop := m % 3 = 0 ∧ ∀ i, i < m / 3 → ¬ bdw w N i
theorem S_pew_108 {N : Nat → Int64} (hE : ∀ i, i < 60 → E 109 i = N i) {i : Nat} (hi : i < 20) : g_Sightings_pewOf_108 E (nI i) = some ((N (3 * i)).toInt32) := by
  unfold g_Sightings_pewOf_108
  rw [pk_mul, rk_in (by omega) (by decide), nI_clamp (by omega), hE _ (by omega)]
theorem S_pla_108 {N : Nat → Int64} (hE : ∀ i, i < 60 → E 109 i = N i) {i : Nat} (hi : i < 20) : g_Sightings_placeOf_108 E (nI i) = some ((N (3 * i + 1)).toInt32) := by
  unfold g_Sightings_placeOf_108
  rw [pk_mul, nI_add, rk_in (by omega) (by decide), nI_clamp (by omega), hE _ (by omega)]
theorem S_isP_108 (hC : CC D w) (hW : WF w) {N : Nat → Int64} (hE : ∀ i, i < 60 → E 109 i = N i) {i : Nat} (hi : i < 20) : g_Sightings_isPlace_108 D E (nI i) = some (b01 (okp w N i)) := by
  have h4 := wf_P4 hW
  have h5 := wf_L5 hW
  unfold g_Sightings_isPlace_108
  rw [pk_mul, nI_add, rk_in (by omega) (by decide), rk_in (by omega) (by decide), nI_clamp (by omega), nI_clamp (by omega), hE _ (by omega), hE _ (by omega), c_0 hC, c_1 hC, wf_P hW, wf_L hW, vl_s _ (by omega), vl_s _ (by omega)]
  unfold okp
  cases vl (N (3 * i)) (nP w) <;> cases vl (N (3 * i + 1)) (nL w) <;> rfl
theorem S_fit_108 (hF : 1000 ≤ F) (hC : CC D w) (hW : WF w) {N : Nat → Int64} (hE : ∀ i, i < 60 → E 109 i = N i) {i : Nat} (hi : i < 20) (hk : okp w N i = true) (y : Nat) : g_Sightings_fitting_108 F D E (nI y) (nI i) = some (nI (mk (ftn w y N i) (nA w))) := by
  have h8 := wf_A8 hW
  obtain ⟨p1, p2, p3, p4⟩ := okp_c hW hk
  unfold g_Sightings_fitting_108
  rw [S_pew_108 hE hi, ob_some, S_pla_108 hE hi, ob_some, p1, p3, C_floorAt_s hC hW p2 p4, ob_some]
  refine lu0 (fun f a => g_Sightings_fitting_108_22 F D E f (nI y) (nI i) (iI (flo w (pe N i) (pa N i))) (nI (mk (ftn w y N i) a)) (nI a)) (n := nA w) _ (by omega) (fun f a ha => ?_) (fun f => ?_)
  · rw [s_Sightings_fitting_108_22]
    unfold b_Sightings_fitting_108_22
    rw [c_24 hC, wf_A hW, if_neg (nI_ge ha (by omega)), C_standing_s (by omega) hC hW ha, ob_some, pk_mul, nI_add, rk_in (by omega) (by decide), nI_clamp (by omega), hE _ (by omega), iI_add, nb_shl a (by omega), nb_or, nI_add, mk_s]
    by_cases c : (iI (bod w y a + flo w (pe N i) (pa N i))).toInt64 = N (3 * i + 2)
    · rw [if_pos ((lg_cmp_eq _ _).mpr c), if_pos (show ftn w y N i a = true from decide_eq_true c)]
    · rw [if_neg (fun z => c ((lg_cmp_eq _ _).mp z)), if_neg (show ¬ ftn w y N i a = true from fun z => c (of_decide_eq_true z)), Nat.or_zero]
  · rw [s_Sightings_fitting_108_22]
    unfold b_Sightings_fitting_108_22
    rw [c_24 hC, wf_A hW, if_pos (nI_le (Nat.le_refl _) (by omega))]
theorem S_take_108 (hF : 1000 ≤ F) (hC : CC D w) (hW : WF w) {N : Nat → Int64} (hE : ∀ i, i < 60 → E 109 i = N i) {m : Nat} (hm : m ≤ 60) (h3 : D 108 3 = nI m) (y : Nat) : ∃ v D', g_Sightings_take_108 F E (nI y) D = some (v, D') ∧ (∀ c, c ≠ 57 → c ≠ 58 → D' c = D c) ∧ ((¬ gud w N m ∧ v = nI 0) ∨ (gud w N m ∧ v = nI 1 ∧ D' 57 0 = nI (m / 3) ∧ D' 57 1 = nI (nA w) ∧ ∀ i, i < m / 3 → i < 8 → D' 58 i = nI (mk (ftn w y N i) (nA w)))) := by
  unfold g_Sightings_take_108
  rw [h3, show nI 3 = nI 3 from rfl, pk_div (by omega) (by decide) (by decide), pk_mul, nI_subN (by omega)]
  have hz := nI_z (m - m / 3 * 3) (by omega)
  by_cases c : m % 3 = 0
  · rw [if_pos (hz.mpr (by omega))]
    have hn : m / 3 ≤ 20 := by omega
    generalize hnn : m / 3 = n at hn
    simp (disch := omega) only [sD_ne]
    rw [c_24 hC, wf_A hW]
    have hA : ∀ c, c ≠ 57 → c ≠ 58 → sD (sD D 57 0 (nI n)) 57 1 (nI (nA w)) c = D c := fun c hc _ => by rw [sD_nr _ _ _ hc, sD_nr _ _ _ hc]
    have hA0 : sD (sD D 57 0 (nI n)) 57 1 (nI (nA w)) 57 0 = nI n := by rw [sD_nj _ _ _ (by decide), sD_eq]
    have hA1 : sD (sD D 57 0 (nI n)) 57 1 (nI (nA w)) 57 1 = nI (nA w) := sD_eq _ _ _ _
    generalize sD (sD D 57 0 (nI n)) 57 1 (nI (nA w)) = A at hA hA0 hA1 ⊢
    obtain ⟨r, r1, r2, r3⟩ := lp (fun i (s : Nat × mx_D) => (∀ c, c ≠ 57 → c ≠ 58 → s.2 c = D c) ∧ s.2 57 = A 57 ∧ (∀ j, j < i → j < 8 → s.2 58 j = nI (mk (ftn w y N j) (nA w))) ∧ (∀ j, j < i → ¬ bdw w N j) ∧ s.1 < 2 ^ 20 ∧ ∀ b, s.1.testBit b = true ↔ ∃ j, j < i ∧ cd5 N j = b) (fun (r : Int32 × mx_D) => (∀ c, c ≠ 57 → c ≠ 58 → r.2 c = D c) ∧ (((∃ i, i < n ∧ bdw w N i) ∧ r.1 = nI 0) ∨ ((∀ i, i < n → ¬ bdw w N i) ∧ r.1 = nI 1 ∧ r.2 57 0 = nI n ∧ r.2 57 1 = nI (nA w) ∧ ∀ i, i < n → i < 8 → r.2 58 i = nI (mk (ftn w y N i) (nA w))))) (fun f i s => g_Sightings_take_108_38 F E f (nI y) (nI s.1) (nI i) s.2) n (fun f i s hi hI => by
      obtain ⟨t, s⟩ := s
      dsimp only at hI
      obtain ⟨i1, i2, i3, i4, i5, i6⟩ := hI
      show (∃ r, g_Sightings_take_108_38 F E (f + 1) (nI y) (nI t) (nI i) s = some r ∧ _) ∨ ∃ s' : Nat × mx_D, _ ∧ g_Sightings_take_108_38 F E (f + 1) (nI y) (nI t) (nI i) s = g_Sightings_take_108_38 F E f (nI y) (nI s'.1) (nI (i + 1)) s'.2
      rw [s_Sightings_take_108_38]
      unfold b_Sightings_take_108_38
      have cS : CC s w := CC_of hC (fun c hc => i1 c (by omega) (by omega))
      rw [i2, hA0, if_neg (nI_ge hi (by omega)), S_isP_108 cS hW hE (by omega), ob_some, b01_if]
      by_cases ck : okp w N i = true
      · obtain ⟨p1, p2, p3, p4⟩ := okp_c hW ck
        have c20 := cd5_lt hW ck
        have c20' : pe N i * 5 + pa N i < 20 := c20
        have oj : ∀ j, j < i → okp w N j = true := fun j hj => by
          have := i4 j hj
          unfold bdw at this
          cases q : okp w N j
          · exact absurd (Or.inl q) this
          · rfl
        rw [if_pos ck, S_pew_108 hE (by omega), ob_some, S_pla_108 hE (by omega), ob_some, p1, p3, pk_mul, nI_add, nb_shl _ (show pe N i * 5 + pa N i < 32 by omega), nb_and, nb_or, nI_add]
        have hzz := nI_z (t &&& 2 ^ (pe N i * 5 + pa N i)) (by have := Nat.and_le_left (n := t) (m := 2 ^ (pe N i * 5 + pa N i)); omega)
        by_cases ct : t.testBit (cd5 N i) = true
        · rw [if_neg (fun z => by
            have := and_pow.mp (hzz.mp z)
            rw [show pe N i * 5 + pa N i = cd5 N i from rfl, ct] at this
            exact absurd this (by decide))]
          obtain ⟨j, j1, j2⟩ := (i6 _).mp ct
          exact Or.inl ⟨_, rfl, i1, Or.inl ⟨⟨i, hi, Or.inr ⟨j, j1, (cd5_s hW ck (oj j j1)).mp j2⟩⟩, rfl⟩⟩
        · rw [if_pos (hzz.mpr (and_pow.mpr (Bool.eq_false_iff.mpr ct)))]
          have nb : ¬ bdw w N i := fun z => by
            rcases z with z | ⟨j, j1, j2⟩
            · rw [ck] at z
              exact absurd z (by decide)
            · exact ct ((i6 _).mpr ⟨j, j1, (cd5_s hW ck (oj j j1)).mpr j2⟩)
          have n4 : ∀ j, j < i + 1 → ¬ bdw w N j := fun j hj => by
            by_cases e : j = i
            · subst e
              exact nb
            · exact i4 j (by omega)
          have n5 : t ||| 2 ^ (pe N i * 5 + pa N i) < 2 ^ 20 := Nat.or_lt_two_pow i5 (Nat.pow_lt_pow_right (by decide) c20')
          have n6 : ∀ b, (t ||| 2 ^ (pe N i * 5 + pa N i)).testBit b = true ↔ ∃ j, j < i + 1 ∧ cd5 N j = b := fun b => by
            rw [Nat.testBit_or, Nat.testBit_two_pow, Bool.or_eq_true, decide_eq_true_eq, i6 b]
            constructor
            · rintro (⟨j, j1, j2⟩ | e)
              · exact ⟨j, by omega, j2⟩
              · exact ⟨i, Nat.lt_succ_self i, e⟩
            · rintro ⟨j, j1, j2⟩
              by_cases e : j = i
              · subst e
                exact Or.inr j2
              · exact Or.inl ⟨j, by omega, j2⟩
          right
          by_cases c8 : 8 ≤ i
          · rw [if_pos (nI_le c8 (by omega))]
            exact ⟨(t ||| 2 ^ (pe N i * 5 + pa N i), s), ⟨i1, i2, fun j hj h8 => i3 j (by omega) h8, n4, n5, n6⟩, rfl⟩
          · rw [if_neg (nI_ge (by omega) (by decide)), S_fit_108 hF cS hW hE (by omega) ck, ob_some, rk_in (show i < 8 by omega) (by decide), nI_clamp (by omega)]
            refine ⟨(t ||| 2 ^ (pe N i * 5 + pa N i), sD s 58 i (nI (mk (ftn w y N i) (nA w)))), ⟨fun c h1 h2 => ?_, ?_, fun j hj h8 => ?_, n4, n5, n6⟩, rfl⟩
            · show sD s 58 i (nI (mk (ftn w y N i) (nA w))) c = D c
              rw [sD_nr _ _ _ h2, i1 c h1 h2]
            · show sD s 58 i (nI (mk (ftn w y N i) (nA w))) 57 = A 57
              rw [sD_nr _ _ _ (by decide), i2]
            · show sD s 58 i (nI (mk (ftn w y N i) (nA w))) 58 j = nI (mk (ftn w y N j) (nA w))
              by_cases e : j = i
              · subst e
                rw [sD_eq]
              · rw [sD_nj _ _ _ e]
                exact i3 j (by omega) h8
      · rw [if_neg ck]
        exact Or.inl ⟨_, rfl, i1, Or.inl ⟨⟨i, hi, Or.inl (Bool.eq_false_iff.mpr ck)⟩, rfl⟩⟩) (fun f s hI => by
      obtain ⟨t, s⟩ := s
      dsimp only at hI
      obtain ⟨i1, i2, i3, i4, i5, i6⟩ := hI
      refine ⟨(nI 1, s), ?_, i1, Or.inr ⟨i4, rfl, ?_, ?_, i3⟩⟩
      · show g_Sightings_take_108_38 F E (f + 1) (nI y) (nI t) (nI n) s = _
        rw [s_Sightings_take_108_38]
        unfold b_Sightings_take_108_38
        rw [i2, hA0, if_pos (nI_le (Nat.le_refl _) (by omega))]
      · show s 57 0 = _
        rw [i2, hA0]
      · show s 57 1 = _
        rw [i2, hA1]) n F 0 (0, A) (by omega) (by omega) ⟨hA, rfl, fun j hj => absurd hj (Nat.not_lt_zero j), fun j hj => absurd hj (Nat.not_lt_zero j), (show (0 : Nat) < 2 ^ 20 by decide), fun b => ⟨fun z => by simp at z, fun ⟨j, j1, _⟩ => absurd j1 (Nat.not_lt_zero j)⟩⟩
    obtain ⟨v, B⟩ := r
    refine ⟨v, B, r1, r2, ?_⟩
    unfold gud
    rw [hnn]
    rcases r3 with ⟨⟨i, h1, h2⟩, h3⟩ | ⟨h1, h2, h3, h4, h5⟩
    · exact Or.inl ⟨fun z => z.2 i h1 h2, h3⟩
    · exact Or.inr ⟨⟨c, h1⟩, h2, h3, h4, h5⟩
  · rw [if_neg (fun z => by have := hz.mp z; omega)]
    exact ⟨nI 0, D, rfl, fun _ _ _ => rfl, Or.inl ⟨fun z => c z.1, rfl⟩⟩
theorem S_pew_110 {N : Nat → Int64} (hE : ∀ i, i < 60 → E 111 i = N i) {i : Nat} (hi : i < 20) : g_Sightings_pewOf_110 E (nI i) = some ((N (3 * i)).toInt32) := by
  unfold g_Sightings_pewOf_110
  rw [pk_mul, rk_in (by omega) (by decide), nI_clamp (by omega), hE _ (by omega)]
theorem S_pla_110 {N : Nat → Int64} (hE : ∀ i, i < 60 → E 111 i = N i) {i : Nat} (hi : i < 20) : g_Sightings_placeOf_110 E (nI i) = some ((N (3 * i + 1)).toInt32) := by
  unfold g_Sightings_placeOf_110
  rw [pk_mul, nI_add, rk_in (by omega) (by decide), nI_clamp (by omega), hE _ (by omega)]
theorem S_isP_110 (hC : CC D w) (hW : WF w) {N : Nat → Int64} (hE : ∀ i, i < 60 → E 111 i = N i) {i : Nat} (hi : i < 20) : g_Sightings_isPlace_110 D E (nI i) = some (b01 (okp w N i)) := by
  have h4 := wf_P4 hW
  have h5 := wf_L5 hW
  unfold g_Sightings_isPlace_110
  rw [pk_mul, nI_add, rk_in (by omega) (by decide), rk_in (by omega) (by decide), nI_clamp (by omega), nI_clamp (by omega), hE _ (by omega), hE _ (by omega), c_0 hC, c_1 hC, wf_P hW, wf_L hW, vl_s _ (by omega), vl_s _ (by omega)]
  unfold okp
  cases vl (N (3 * i)) (nP w) <;> cases vl (N (3 * i + 1)) (nL w) <;> rfl
theorem S_fit_110 (hF : 1000 ≤ F) (hC : CC D w) (hW : WF w) {N : Nat → Int64} (hE : ∀ i, i < 60 → E 111 i = N i) {i : Nat} (hi : i < 20) (hk : okp w N i = true) (y : Nat) : g_Sightings_fitting_110 F D E (nI y) (nI i) = some (nI (mk (ftn w y N i) (nA w))) := by
  have h8 := wf_A8 hW
  obtain ⟨p1, p2, p3, p4⟩ := okp_c hW hk
  unfold g_Sightings_fitting_110
  rw [S_pew_110 hE hi, ob_some, S_pla_110 hE hi, ob_some, p1, p3, C_floorAt_s hC hW p2 p4, ob_some]
  refine lu0 (fun f a => g_Sightings_fitting_110_22 F D E f (nI y) (nI i) (iI (flo w (pe N i) (pa N i))) (nI (mk (ftn w y N i) a)) (nI a)) (n := nA w) _ (by omega) (fun f a ha => ?_) (fun f => ?_)
  · rw [s_Sightings_fitting_110_22]
    unfold b_Sightings_fitting_110_22
    rw [c_24 hC, wf_A hW, if_neg (nI_ge ha (by omega)), C_standing_s (by omega) hC hW ha, ob_some, pk_mul, nI_add, rk_in (by omega) (by decide), nI_clamp (by omega), hE _ (by omega), iI_add, nb_shl a (by omega), nb_or, nI_add, mk_s]
    by_cases c : (iI (bod w y a + flo w (pe N i) (pa N i))).toInt64 = N (3 * i + 2)
    · rw [if_pos ((lg_cmp_eq _ _).mpr c), if_pos (show ftn w y N i a = true from decide_eq_true c)]
    · rw [if_neg (fun z => c ((lg_cmp_eq _ _).mp z)), if_neg (show ¬ ftn w y N i a = true from fun z => c (of_decide_eq_true z)), Nat.or_zero]
  · rw [s_Sightings_fitting_110_22]
    unfold b_Sightings_fitting_110_22
    rw [c_24 hC, wf_A hW, if_pos (nI_le (Nat.le_refl _) (by omega))]
theorem S_take_110 (hF : 1000 ≤ F) (hC : CC D w) (hW : WF w) {N : Nat → Int64} (hE : ∀ i, i < 60 → E 111 i = N i) {m : Nat} (hm : m ≤ 60) (h3 : D 110 3 = nI m) (y : Nat) : ∃ v D', g_Sightings_take_110 F E (nI y) D = some (v, D') ∧ (∀ c, c ≠ 57 → c ≠ 58 → D' c = D c) ∧ ((¬ gud w N m ∧ v = nI 0) ∨ (gud w N m ∧ v = nI 1 ∧ D' 57 0 = nI (m / 3) ∧ D' 57 1 = nI (nA w) ∧ ∀ i, i < m / 3 → i < 8 → D' 58 i = nI (mk (ftn w y N i) (nA w)))) := by
  unfold g_Sightings_take_110
  rw [h3, show nI 3 = nI 3 from rfl, pk_div (by omega) (by decide) (by decide), pk_mul, nI_subN (by omega)]
  have hz := nI_z (m - m / 3 * 3) (by omega)
  by_cases c : m % 3 = 0
  · rw [if_pos (hz.mpr (by omega))]
    have hn : m / 3 ≤ 20 := by omega
    generalize hnn : m / 3 = n at hn
    simp (disch := omega) only [sD_ne]
    rw [c_24 hC, wf_A hW]
    have hA : ∀ c, c ≠ 57 → c ≠ 58 → sD (sD D 57 0 (nI n)) 57 1 (nI (nA w)) c = D c := fun c hc _ => by rw [sD_nr _ _ _ hc, sD_nr _ _ _ hc]
    have hA0 : sD (sD D 57 0 (nI n)) 57 1 (nI (nA w)) 57 0 = nI n := by rw [sD_nj _ _ _ (by decide), sD_eq]
    have hA1 : sD (sD D 57 0 (nI n)) 57 1 (nI (nA w)) 57 1 = nI (nA w) := sD_eq _ _ _ _
    generalize sD (sD D 57 0 (nI n)) 57 1 (nI (nA w)) = A at hA hA0 hA1 ⊢
    obtain ⟨r, r1, r2, r3⟩ := lp (fun i (s : Nat × mx_D) => (∀ c, c ≠ 57 → c ≠ 58 → s.2 c = D c) ∧ s.2 57 = A 57 ∧ (∀ j, j < i → j < 8 → s.2 58 j = nI (mk (ftn w y N j) (nA w))) ∧ (∀ j, j < i → ¬ bdw w N j) ∧ s.1 < 2 ^ 20 ∧ ∀ b, s.1.testBit b = true ↔ ∃ j, j < i ∧ cd5 N j = b) (fun (r : Int32 × mx_D) => (∀ c, c ≠ 57 → c ≠ 58 → r.2 c = D c) ∧ (((∃ i, i < n ∧ bdw w N i) ∧ r.1 = nI 0) ∨ ((∀ i, i < n → ¬ bdw w N i) ∧ r.1 = nI 1 ∧ r.2 57 0 = nI n ∧ r.2 57 1 = nI (nA w) ∧ ∀ i, i < n → i < 8 → r.2 58 i = nI (mk (ftn w y N i) (nA w))))) (fun f i s => g_Sightings_take_110_38 F E f (nI y) (nI s.1) (nI i) s.2) n (fun f i s hi hI => by
      obtain ⟨t, s⟩ := s
      dsimp only at hI
      obtain ⟨i1, i2, i3, i4, i5, i6⟩ := hI
      show (∃ r, g_Sightings_take_110_38 F E (f + 1) (nI y) (nI t) (nI i) s = some r ∧ _) ∨ ∃ s' : Nat × mx_D, _ ∧ g_Sightings_take_110_38 F E (f + 1) (nI y) (nI t) (nI i) s = g_Sightings_take_110_38 F E f (nI y) (nI s'.1) (nI (i + 1)) s'.2
      rw [s_Sightings_take_110_38]
      unfold b_Sightings_take_110_38
      have cS : CC s w := CC_of hC (fun c hc => i1 c (by omega) (by omega))
      rw [i2, hA0, if_neg (nI_ge hi (by omega)), S_isP_110 cS hW hE (by omega), ob_some, b01_if]
      by_cases ck : okp w N i = true
      · obtain ⟨p1, p2, p3, p4⟩ := okp_c hW ck
        have c20 := cd5_lt hW ck
        have c20' : pe N i * 5 + pa N i < 20 := c20
        have oj : ∀ j, j < i → okp w N j = true := fun j hj => by
          have := i4 j hj
          unfold bdw at this
          cases q : okp w N j
          · exact absurd (Or.inl q) this
          · rfl
        rw [if_pos ck, S_pew_110 hE (by omega), ob_some, S_pla_110 hE (by omega), ob_some, p1, p3, pk_mul, nI_add, nb_shl _ (show pe N i * 5 + pa N i < 32 by omega), nb_and, nb_or, nI_add]
        have hzz := nI_z (t &&& 2 ^ (pe N i * 5 + pa N i)) (by have := Nat.and_le_left (n := t) (m := 2 ^ (pe N i * 5 + pa N i)); omega)
        by_cases ct : t.testBit (cd5 N i) = true
        · rw [if_neg (fun z => by
            have := and_pow.mp (hzz.mp z)
            rw [show pe N i * 5 + pa N i = cd5 N i from rfl, ct] at this
            exact absurd this (by decide))]
          obtain ⟨j, j1, j2⟩ := (i6 _).mp ct
          exact Or.inl ⟨_, rfl, i1, Or.inl ⟨⟨i, hi, Or.inr ⟨j, j1, (cd5_s hW ck (oj j j1)).mp j2⟩⟩, rfl⟩⟩
        · rw [if_pos (hzz.mpr (and_pow.mpr (Bool.eq_false_iff.mpr ct)))]
          have nb : ¬ bdw w N i := fun z => by
            rcases z with z | ⟨j, j1, j2⟩
            · rw [ck] at z
              exact absurd z (by decide)
            · exact ct ((i6 _).mpr ⟨j, j1, (cd5_s hW ck (oj j j1)).mpr j2⟩)
          have n4 : ∀ j, j < i + 1 → ¬ bdw w N j := fun j hj => by
            by_cases e : j = i
            · subst e
              exact nb
            · exact i4 j (by omega)
          have n5 : t ||| 2 ^ (pe N i * 5 + pa N i) < 2 ^ 20 := Nat.or_lt_two_pow i5 (Nat.pow_lt_pow_right (by decide) c20')
          have n6 : ∀ b, (t ||| 2 ^ (pe N i * 5 + pa N i)).testBit b = true ↔ ∃ j, j < i + 1 ∧ cd5 N j = b := fun b => by
            rw [Nat.testBit_or, Nat.testBit_two_pow, Bool.or_eq_true, decide_eq_true_eq, i6 b]
            constructor
            · rintro (⟨j, j1, j2⟩ | e)
              · exact ⟨j, by omega, j2⟩
              · exact ⟨i, Nat.lt_succ_self i, e⟩
            · rintro ⟨j, j1, j2⟩
              by_cases e : j = i
              · subst e
                exact Or.inr j2
              · exact Or.inl ⟨j, by omega, j2⟩
          right
          by_cases c8 : 8 ≤ i
          · rw [if_pos (nI_le c8 (by omega))]
            exact ⟨(t ||| 2 ^ (pe N i * 5 + pa N i), s), ⟨i1, i2, fun j hj h8 => i3 j (by omega) h8, n4, n5, n6⟩, rfl⟩
          · rw [if_neg (nI_ge (by omega) (by decide)), S_fit_110 hF cS hW hE (by omega) ck, ob_some, rk_in (show i < 8 by omega) (by decide), nI_clamp (by omega)]
            refine ⟨(t ||| 2 ^ (pe N i * 5 + pa N i), sD s 58 i (nI (mk (ftn w y N i) (nA w)))), ⟨fun c h1 h2 => ?_, ?_, fun j hj h8 => ?_, n4, n5, n6⟩, rfl⟩
            · show sD s 58 i (nI (mk (ftn w y N i) (nA w))) c = D c
              rw [sD_nr _ _ _ h2, i1 c h1 h2]
            · show sD s 58 i (nI (mk (ftn w y N i) (nA w))) 57 = A 57
              rw [sD_nr _ _ _ (by decide), i2]
            · show sD s 58 i (nI (mk (ftn w y N i) (nA w))) 58 j = nI (mk (ftn w y N j) (nA w))
              by_cases e : j = i
              · subst e
                rw [sD_eq]
              · rw [sD_nj _ _ _ e]
                exact i3 j (by omega) h8
      · rw [if_neg ck]
        exact Or.inl ⟨_, rfl, i1, Or.inl ⟨⟨i, hi, Or.inl (Bool.eq_false_iff.mpr ck)⟩, rfl⟩⟩) (fun f s hI => by
      obtain ⟨t, s⟩ := s
      dsimp only at hI
      obtain ⟨i1, i2, i3, i4, i5, i6⟩ := hI
      refine ⟨(nI 1, s), ?_, i1, Or.inr ⟨i4, rfl, ?_, ?_, i3⟩⟩
      · show g_Sightings_take_110_38 F E (f + 1) (nI y) (nI t) (nI n) s = _
        rw [s_Sightings_take_110_38]
        unfold b_Sightings_take_110_38
        rw [i2, hA0, if_pos (nI_le (Nat.le_refl _) (by omega))]
      · show s 57 0 = _
        rw [i2, hA0]
      · show s 57 1 = _
        rw [i2, hA1]) n F 0 (0, A) (by omega) (by omega) ⟨hA, rfl, fun j hj => absurd hj (Nat.not_lt_zero j), fun j hj => absurd hj (Nat.not_lt_zero j), (show (0 : Nat) < 2 ^ 20 by decide), fun b => ⟨fun z => by simp at z, fun ⟨j, j1, _⟩ => absurd j1 (Nat.not_lt_zero j)⟩⟩
    obtain ⟨v, B⟩ := r
    refine ⟨v, B, r1, r2, ?_⟩
    unfold gud
    rw [hnn]
    rcases r3 with ⟨⟨i, h1, h2⟩, h3⟩ | ⟨h1, h2, h3, h4, h5⟩
    · exact Or.inl ⟨fun z => z.2 i h1 h2, h3⟩
    · exact Or.inr ⟨⟨c, h1⟩, h2, h3, h4, h5⟩
  · rw [if_neg (fun z => by have := hz.mp z; omega)]
    exact ⟨nI 0, D, rfl, fun _ _ _ => rfl, Or.inl ⟨fun z => c z.1, rfl⟩⟩
theorem S_pew_112 {N : Nat → Int64} (hE : ∀ i, i < 60 → E 113 i = N i) {i : Nat} (hi : i < 20) : g_Sightings_pewOf_112 E (nI i) = some ((N (3 * i)).toInt32) := by
  unfold g_Sightings_pewOf_112
  rw [pk_mul, rk_in (by omega) (by decide), nI_clamp (by omega), hE _ (by omega)]
theorem S_pla_112 {N : Nat → Int64} (hE : ∀ i, i < 60 → E 113 i = N i) {i : Nat} (hi : i < 20) : g_Sightings_placeOf_112 E (nI i) = some ((N (3 * i + 1)).toInt32) := by
  unfold g_Sightings_placeOf_112
  rw [pk_mul, nI_add, rk_in (by omega) (by decide), nI_clamp (by omega), hE _ (by omega)]
theorem S_isP_112 (hC : CC D w) (hW : WF w) {N : Nat → Int64} (hE : ∀ i, i < 60 → E 113 i = N i) {i : Nat} (hi : i < 20) : g_Sightings_isPlace_112 D E (nI i) = some (b01 (okp w N i)) := by
  have h4 := wf_P4 hW
  have h5 := wf_L5 hW
  unfold g_Sightings_isPlace_112
  rw [pk_mul, nI_add, rk_in (by omega) (by decide), rk_in (by omega) (by decide), nI_clamp (by omega), nI_clamp (by omega), hE _ (by omega), hE _ (by omega), c_0 hC, c_1 hC, wf_P hW, wf_L hW, vl_s _ (by omega), vl_s _ (by omega)]
  unfold okp
  cases vl (N (3 * i)) (nP w) <;> cases vl (N (3 * i + 1)) (nL w) <;> rfl
theorem S_fit_112 (hF : 1000 ≤ F) (hC : CC D w) (hW : WF w) {N : Nat → Int64} (hE : ∀ i, i < 60 → E 113 i = N i) {i : Nat} (hi : i < 20) (hk : okp w N i = true) (y : Nat) : g_Sightings_fitting_112 F D E (nI y) (nI i) = some (nI (mk (ftn w y N i) (nA w))) := by
  have h8 := wf_A8 hW
  obtain ⟨p1, p2, p3, p4⟩ := okp_c hW hk
  unfold g_Sightings_fitting_112
  rw [S_pew_112 hE hi, ob_some, S_pla_112 hE hi, ob_some, p1, p3, C_floorAt_s hC hW p2 p4, ob_some]
  refine lu0 (fun f a => g_Sightings_fitting_112_22 F D E f (nI y) (nI i) (iI (flo w (pe N i) (pa N i))) (nI (mk (ftn w y N i) a)) (nI a)) (n := nA w) _ (by omega) (fun f a ha => ?_) (fun f => ?_)
  · rw [s_Sightings_fitting_112_22]
    unfold b_Sightings_fitting_112_22
    rw [c_24 hC, wf_A hW, if_neg (nI_ge ha (by omega)), C_standing_s (by omega) hC hW ha, ob_some, pk_mul, nI_add, rk_in (by omega) (by decide), nI_clamp (by omega), hE _ (by omega), iI_add, nb_shl a (by omega), nb_or, nI_add, mk_s]
    by_cases c : (iI (bod w y a + flo w (pe N i) (pa N i))).toInt64 = N (3 * i + 2)
    · rw [if_pos ((lg_cmp_eq _ _).mpr c), if_pos (show ftn w y N i a = true from decide_eq_true c)]
    · rw [if_neg (fun z => c ((lg_cmp_eq _ _).mp z)), if_neg (show ¬ ftn w y N i a = true from fun z => c (of_decide_eq_true z)), Nat.or_zero]
  · rw [s_Sightings_fitting_112_22]
    unfold b_Sightings_fitting_112_22
    rw [c_24 hC, wf_A hW, if_pos (nI_le (Nat.le_refl _) (by omega))]
theorem S_take_112 (hF : 1000 ≤ F) (hC : CC D w) (hW : WF w) {N : Nat → Int64} (hE : ∀ i, i < 60 → E 113 i = N i) {m : Nat} (hm : m ≤ 60) (h3 : D 112 3 = nI m) (y : Nat) : ∃ v D', g_Sightings_take_112 F E (nI y) D = some (v, D') ∧ (∀ c, c ≠ 57 → c ≠ 58 → D' c = D c) ∧ ((¬ gud w N m ∧ v = nI 0) ∨ (gud w N m ∧ v = nI 1 ∧ D' 57 0 = nI (m / 3) ∧ D' 57 1 = nI (nA w) ∧ ∀ i, i < m / 3 → i < 8 → D' 58 i = nI (mk (ftn w y N i) (nA w)))) := by
  unfold g_Sightings_take_112
  rw [h3, show nI 3 = nI 3 from rfl, pk_div (by omega) (by decide) (by decide), pk_mul, nI_subN (by omega)]
  have hz := nI_z (m - m / 3 * 3) (by omega)
  by_cases c : m % 3 = 0
  · rw [if_pos (hz.mpr (by omega))]
    have hn : m / 3 ≤ 20 := by omega
    generalize hnn : m / 3 = n at hn
    simp (disch := omega) only [sD_ne]
    rw [c_24 hC, wf_A hW]
    have hA : ∀ c, c ≠ 57 → c ≠ 58 → sD (sD D 57 0 (nI n)) 57 1 (nI (nA w)) c = D c := fun c hc _ => by rw [sD_nr _ _ _ hc, sD_nr _ _ _ hc]
    have hA0 : sD (sD D 57 0 (nI n)) 57 1 (nI (nA w)) 57 0 = nI n := by rw [sD_nj _ _ _ (by decide), sD_eq]
    have hA1 : sD (sD D 57 0 (nI n)) 57 1 (nI (nA w)) 57 1 = nI (nA w) := sD_eq _ _ _ _
    generalize sD (sD D 57 0 (nI n)) 57 1 (nI (nA w)) = A at hA hA0 hA1 ⊢
    obtain ⟨r, r1, r2, r3⟩ := lp (fun i (s : Nat × mx_D) => (∀ c, c ≠ 57 → c ≠ 58 → s.2 c = D c) ∧ s.2 57 = A 57 ∧ (∀ j, j < i → j < 8 → s.2 58 j = nI (mk (ftn w y N j) (nA w))) ∧ (∀ j, j < i → ¬ bdw w N j) ∧ s.1 < 2 ^ 20 ∧ ∀ b, s.1.testBit b = true ↔ ∃ j, j < i ∧ cd5 N j = b) (fun (r : Int32 × mx_D) => (∀ c, c ≠ 57 → c ≠ 58 → r.2 c = D c) ∧ (((∃ i, i < n ∧ bdw w N i) ∧ r.1 = nI 0) ∨ ((∀ i, i < n → ¬ bdw w N i) ∧ r.1 = nI 1 ∧ r.2 57 0 = nI n ∧ r.2 57 1 = nI (nA w) ∧ ∀ i, i < n → i < 8 → r.2 58 i = nI (mk (ftn w y N i) (nA w))))) (fun f i s => g_Sightings_take_112_38 F E f (nI y) (nI s.1) (nI i) s.2) n (fun f i s hi hI => by
      obtain ⟨t, s⟩ := s
      dsimp only at hI
      obtain ⟨i1, i2, i3, i4, i5, i6⟩ := hI
      show (∃ r, g_Sightings_take_112_38 F E (f + 1) (nI y) (nI t) (nI i) s = some r ∧ _) ∨ ∃ s' : Nat × mx_D, _ ∧ g_Sightings_take_112_38 F E (f + 1) (nI y) (nI t) (nI i) s = g_Sightings_take_112_38 F E f (nI y) (nI s'.1) (nI (i + 1)) s'.2
      rw [s_Sightings_take_112_38]
      unfold b_Sightings_take_112_38
      have cS : CC s w := CC_of hC (fun c hc => i1 c (by omega) (by omega))
      rw [i2, hA0, if_neg (nI_ge hi (by omega)), S_isP_112 cS hW hE (by omega), ob_some, b01_if]
      by_cases ck : okp w N i = true
      · obtain ⟨p1, p2, p3, p4⟩ := okp_c hW ck
        have c20 := cd5_lt hW ck
        have c20' : pe N i * 5 + pa N i < 20 := c20
        have oj : ∀ j, j < i → okp w N j = true := fun j hj => by
          have := i4 j hj
          unfold bdw at this
          cases q : okp w N j
          · exact absurd (Or.inl q) this
          · rfl
        rw [if_pos ck, S_pew_112 hE (by omega), ob_some, S_pla_112 hE (by omega), ob_some, p1, p3, pk_mul, nI_add, nb_shl _ (show pe N i * 5 + pa N i < 32 by omega), nb_and, nb_or, nI_add]
        have hzz := nI_z (t &&& 2 ^ (pe N i * 5 + pa N i)) (by have := Nat.and_le_left (n := t) (m := 2 ^ (pe N i * 5 + pa N i)); omega)
        by_cases ct : t.testBit (cd5 N i) = true
        · rw [if_neg (fun z => by
            have := and_pow.mp (hzz.mp z)
            rw [show pe N i * 5 + pa N i = cd5 N i from rfl, ct] at this
            exact absurd this (by decide))]
          obtain ⟨j, j1, j2⟩ := (i6 _).mp ct
          exact Or.inl ⟨_, rfl, i1, Or.inl ⟨⟨i, hi, Or.inr ⟨j, j1, (cd5_s hW ck (oj j j1)).mp j2⟩⟩, rfl⟩⟩
        · rw [if_pos (hzz.mpr (and_pow.mpr (Bool.eq_false_iff.mpr ct)))]
          have nb : ¬ bdw w N i := fun z => by
            rcases z with z | ⟨j, j1, j2⟩
            · rw [ck] at z
              exact absurd z (by decide)
            · exact ct ((i6 _).mpr ⟨j, j1, (cd5_s hW ck (oj j j1)).mpr j2⟩)
          have n4 : ∀ j, j < i + 1 → ¬ bdw w N j := fun j hj => by
            by_cases e : j = i
            · subst e
              exact nb
            · exact i4 j (by omega)
          have n5 : t ||| 2 ^ (pe N i * 5 + pa N i) < 2 ^ 20 := Nat.or_lt_two_pow i5 (Nat.pow_lt_pow_right (by decide) c20')
          have n6 : ∀ b, (t ||| 2 ^ (pe N i * 5 + pa N i)).testBit b = true ↔ ∃ j, j < i + 1 ∧ cd5 N j = b := fun b => by
            rw [Nat.testBit_or, Nat.testBit_two_pow, Bool.or_eq_true, decide_eq_true_eq, i6 b]
            constructor
            · rintro (⟨j, j1, j2⟩ | e)
              · exact ⟨j, by omega, j2⟩
              · exact ⟨i, Nat.lt_succ_self i, e⟩
            · rintro ⟨j, j1, j2⟩
              by_cases e : j = i
              · subst e
                exact Or.inr j2
              · exact Or.inl ⟨j, by omega, j2⟩
          right
          by_cases c8 : 8 ≤ i
          · rw [if_pos (nI_le c8 (by omega))]
            exact ⟨(t ||| 2 ^ (pe N i * 5 + pa N i), s), ⟨i1, i2, fun j hj h8 => i3 j (by omega) h8, n4, n5, n6⟩, rfl⟩
          · rw [if_neg (nI_ge (by omega) (by decide)), S_fit_112 hF cS hW hE (by omega) ck, ob_some, rk_in (show i < 8 by omega) (by decide), nI_clamp (by omega)]
            refine ⟨(t ||| 2 ^ (pe N i * 5 + pa N i), sD s 58 i (nI (mk (ftn w y N i) (nA w)))), ⟨fun c h1 h2 => ?_, ?_, fun j hj h8 => ?_, n4, n5, n6⟩, rfl⟩
            · show sD s 58 i (nI (mk (ftn w y N i) (nA w))) c = D c
              rw [sD_nr _ _ _ h2, i1 c h1 h2]
            · show sD s 58 i (nI (mk (ftn w y N i) (nA w))) 57 = A 57
              rw [sD_nr _ _ _ (by decide), i2]
            · show sD s 58 i (nI (mk (ftn w y N i) (nA w))) 58 j = nI (mk (ftn w y N j) (nA w))
              by_cases e : j = i
              · subst e
                rw [sD_eq]
              · rw [sD_nj _ _ _ e]
                exact i3 j (by omega) h8
      · rw [if_neg ck]
        exact Or.inl ⟨_, rfl, i1, Or.inl ⟨⟨i, hi, Or.inl (Bool.eq_false_iff.mpr ck)⟩, rfl⟩⟩) (fun f s hI => by
      obtain ⟨t, s⟩ := s
      dsimp only at hI
      obtain ⟨i1, i2, i3, i4, i5, i6⟩ := hI
      refine ⟨(nI 1, s), ?_, i1, Or.inr ⟨i4, rfl, ?_, ?_, i3⟩⟩
      · show g_Sightings_take_112_38 F E (f + 1) (nI y) (nI t) (nI n) s = _
        rw [s_Sightings_take_112_38]
        unfold b_Sightings_take_112_38
        rw [i2, hA0, if_pos (nI_le (Nat.le_refl _) (by omega))]
      · show s 57 0 = _
        rw [i2, hA0]
      · show s 57 1 = _
        rw [i2, hA1]) n F 0 (0, A) (by omega) (by omega) ⟨hA, rfl, fun j hj => absurd hj (Nat.not_lt_zero j), fun j hj => absurd hj (Nat.not_lt_zero j), (show (0 : Nat) < 2 ^ 20 by decide), fun b => ⟨fun z => by simp at z, fun ⟨j, j1, _⟩ => absurd j1 (Nat.not_lt_zero j)⟩⟩
    obtain ⟨v, B⟩ := r
    refine ⟨v, B, r1, r2, ?_⟩
    unfold gud
    rw [hnn]
    rcases r3 with ⟨⟨i, h1, h2⟩, h3⟩ | ⟨h1, h2, h3, h4, h5⟩
    · exact Or.inl ⟨fun z => z.2 i h1 h2, h3⟩
    · exact Or.inr ⟨⟨c, h1⟩, h2, h3, h4, h5⟩
  · rw [if_neg (fun z => by have := hz.mp z; omega)]
    exact ⟨nI 0, D, rfl, fun _ _ _ => rfl, Or.inl ⟨fun z => c z.1, rfl⟩⟩
theorem S_pew_114 {N : Nat → Int64} (hE : ∀ i, i < 60 → E 115 i = N i) {i : Nat} (hi : i < 20) : g_Sightings_pewOf_114 E (nI i) = some ((N (3 * i)).toInt32) := by
  unfold g_Sightings_pewOf_114
  rw [pk_mul, rk_in (by omega) (by decide), nI_clamp (by omega), hE _ (by omega)]
theorem S_pla_114 {N : Nat → Int64} (hE : ∀ i, i < 60 → E 115 i = N i) {i : Nat} (hi : i < 20) : g_Sightings_placeOf_114 E (nI i) = some ((N (3 * i + 1)).toInt32) := by
  unfold g_Sightings_placeOf_114
  rw [pk_mul, nI_add, rk_in (by omega) (by decide), nI_clamp (by omega), hE _ (by omega)]
theorem S_isP_114 (hC : CC D w) (hW : WF w) {N : Nat → Int64} (hE : ∀ i, i < 60 → E 115 i = N i) {i : Nat} (hi : i < 20) : g_Sightings_isPlace_114 D E (nI i) = some (b01 (okp w N i)) := by
  have h4 := wf_P4 hW
  have h5 := wf_L5 hW
  unfold g_Sightings_isPlace_114
  rw [pk_mul, nI_add, rk_in (by omega) (by decide), rk_in (by omega) (by decide), nI_clamp (by omega), nI_clamp (by omega), hE _ (by omega), hE _ (by omega), c_0 hC, c_1 hC, wf_P hW, wf_L hW, vl_s _ (by omega), vl_s _ (by omega)]
  unfold okp
  cases vl (N (3 * i)) (nP w) <;> cases vl (N (3 * i + 1)) (nL w) <;> rfl
theorem S_fit_114 (hF : 1000 ≤ F) (hC : CC D w) (hW : WF w) {N : Nat → Int64} (hE : ∀ i, i < 60 → E 115 i = N i) {i : Nat} (hi : i < 20) (hk : okp w N i = true) (y : Nat) : g_Sightings_fitting_114 F D E (nI y) (nI i) = some (nI (mk (ftn w y N i) (nA w))) := by
  have h8 := wf_A8 hW
  obtain ⟨p1, p2, p3, p4⟩ := okp_c hW hk
  unfold g_Sightings_fitting_114
  rw [S_pew_114 hE hi, ob_some, S_pla_114 hE hi, ob_some, p1, p3, C_floorAt_s hC hW p2 p4, ob_some]
  refine lu0 (fun f a => g_Sightings_fitting_114_22 F D E f (nI y) (nI i) (iI (flo w (pe N i) (pa N i))) (nI (mk (ftn w y N i) a)) (nI a)) (n := nA w) _ (by omega) (fun f a ha => ?_) (fun f => ?_)
  · rw [s_Sightings_fitting_114_22]
    unfold b_Sightings_fitting_114_22
    rw [c_24 hC, wf_A hW, if_neg (nI_ge ha (by omega)), C_standing_s (by omega) hC hW ha, ob_some, pk_mul, nI_add, rk_in (by omega) (by decide), nI_clamp (by omega), hE _ (by omega), iI_add, nb_shl a (by omega), nb_or, nI_add, mk_s]
    by_cases c : (iI (bod w y a + flo w (pe N i) (pa N i))).toInt64 = N (3 * i + 2)
    · rw [if_pos ((lg_cmp_eq _ _).mpr c), if_pos (show ftn w y N i a = true from decide_eq_true c)]
    · rw [if_neg (fun z => c ((lg_cmp_eq _ _).mp z)), if_neg (show ¬ ftn w y N i a = true from fun z => c (of_decide_eq_true z)), Nat.or_zero]
  · rw [s_Sightings_fitting_114_22]
    unfold b_Sightings_fitting_114_22
    rw [c_24 hC, wf_A hW, if_pos (nI_le (Nat.le_refl _) (by omega))]
theorem S_take_114 (hF : 1000 ≤ F) (hC : CC D w) (hW : WF w) {N : Nat → Int64} (hE : ∀ i, i < 60 → E 115 i = N i) {m : Nat} (hm : m ≤ 60) (h3 : D 114 3 = nI m) (y : Nat) : ∃ v D', g_Sightings_take_114 F E (nI y) D = some (v, D') ∧ (∀ c, c ≠ 57 → c ≠ 58 → D' c = D c) ∧ ((¬ gud w N m ∧ v = nI 0) ∨ (gud w N m ∧ v = nI 1 ∧ D' 57 0 = nI (m / 3) ∧ D' 57 1 = nI (nA w) ∧ ∀ i, i < m / 3 → i < 8 → D' 58 i = nI (mk (ftn w y N i) (nA w)))) := by
  unfold g_Sightings_take_114
  rw [h3, show nI 3 = nI 3 from rfl, pk_div (by omega) (by decide) (by decide), pk_mul, nI_subN (by omega)]
  have hz := nI_z (m - m / 3 * 3) (by omega)
  by_cases c : m % 3 = 0
  · rw [if_pos (hz.mpr (by omega))]
    have hn : m / 3 ≤ 20 := by omega
    generalize hnn : m / 3 = n at hn
    simp (disch := omega) only [sD_ne]
    rw [c_24 hC, wf_A hW]
    have hA : ∀ c, c ≠ 57 → c ≠ 58 → sD (sD D 57 0 (nI n)) 57 1 (nI (nA w)) c = D c := fun c hc _ => by rw [sD_nr _ _ _ hc, sD_nr _ _ _ hc]
    have hA0 : sD (sD D 57 0 (nI n)) 57 1 (nI (nA w)) 57 0 = nI n := by rw [sD_nj _ _ _ (by decide), sD_eq]
    have hA1 : sD (sD D 57 0 (nI n)) 57 1 (nI (nA w)) 57 1 = nI (nA w) := sD_eq _ _ _ _
    generalize sD (sD D 57 0 (nI n)) 57 1 (nI (nA w)) = A at hA hA0 hA1 ⊢
    obtain ⟨r, r1, r2, r3⟩ := lp (fun i (s : Nat × mx_D) => (∀ c, c ≠ 57 → c ≠ 58 → s.2 c = D c) ∧ s.2 57 = A 57 ∧ (∀ j, j < i → j < 8 → s.2 58 j = nI (mk (ftn w y N j) (nA w))) ∧ (∀ j, j < i → ¬ bdw w N j) ∧ s.1 < 2 ^ 20 ∧ ∀ b, s.1.testBit b = true ↔ ∃ j, j < i ∧ cd5 N j = b) (fun (r : Int32 × mx_D) => (∀ c, c ≠ 57 → c ≠ 58 → r.2 c = D c) ∧ (((∃ i, i < n ∧ bdw w N i) ∧ r.1 = nI 0) ∨ ((∀ i, i < n → ¬ bdw w N i) ∧ r.1 = nI 1 ∧ r.2 57 0 = nI n ∧ r.2 57 1 = nI (nA w) ∧ ∀ i, i < n → i < 8 → r.2 58 i = nI (mk (ftn w y N i) (nA w))))) (fun f i s => g_Sightings_take_114_38 F E f (nI y) (nI s.1) (nI i) s.2) n (fun f i s hi hI => by
      obtain ⟨t, s⟩ := s
      dsimp only at hI
      obtain ⟨i1, i2, i3, i4, i5, i6⟩ := hI
      show (∃ r, g_Sightings_take_114_38 F E (f + 1) (nI y) (nI t) (nI i) s = some r ∧ _) ∨ ∃ s' : Nat × mx_D, _ ∧ g_Sightings_take_114_38 F E (f + 1) (nI y) (nI t) (nI i) s = g_Sightings_take_114_38 F E f (nI y) (nI s'.1) (nI (i + 1)) s'.2
      rw [s_Sightings_take_114_38]
      unfold b_Sightings_take_114_38
      have cS : CC s w := CC_of hC (fun c hc => i1 c (by omega) (by omega))
      rw [i2, hA0, if_neg (nI_ge hi (by omega)), S_isP_114 cS hW hE (by omega), ob_some, b01_if]
      by_cases ck : okp w N i = true
      · obtain ⟨p1, p2, p3, p4⟩ := okp_c hW ck
        have c20 := cd5_lt hW ck
        have c20' : pe N i * 5 + pa N i < 20 := c20
        have oj : ∀ j, j < i → okp w N j = true := fun j hj => by
          have := i4 j hj
          unfold bdw at this
          cases q : okp w N j
          · exact absurd (Or.inl q) this
          · rfl
        rw [if_pos ck, S_pew_114 hE (by omega), ob_some, S_pla_114 hE (by omega), ob_some, p1, p3, pk_mul, nI_add, nb_shl _ (show pe N i * 5 + pa N i < 32 by omega), nb_and, nb_or, nI_add]
        have hzz := nI_z (t &&& 2 ^ (pe N i * 5 + pa N i)) (by have := Nat.and_le_left (n := t) (m := 2 ^ (pe N i * 5 + pa N i)); omega)
        by_cases ct : t.testBit (cd5 N i) = true
        · rw [if_neg (fun z => by
            have := and_pow.mp (hzz.mp z)
            rw [show pe N i * 5 + pa N i = cd5 N i from rfl, ct] at this
            exact absurd this (by decide))]
          obtain ⟨j, j1, j2⟩ := (i6 _).mp ct
          exact Or.inl ⟨_, rfl, i1, Or.inl ⟨⟨i, hi, Or.inr ⟨j, j1, (cd5_s hW ck (oj j j1)).mp j2⟩⟩, rfl⟩⟩
        · rw [if_pos (hzz.mpr (and_pow.mpr (Bool.eq_false_iff.mpr ct)))]
          have nb : ¬ bdw w N i := fun z => by
            rcases z with z | ⟨j, j1, j2⟩
            · rw [ck] at z
              exact absurd z (by decide)
            · exact ct ((i6 _).mpr ⟨j, j1, (cd5_s hW ck (oj j j1)).mpr j2⟩)
          have n4 : ∀ j, j < i + 1 → ¬ bdw w N j := fun j hj => by
            by_cases e : j = i
            · subst e
              exact nb
            · exact i4 j (by omega)
          have n5 : t ||| 2 ^ (pe N i * 5 + pa N i) < 2 ^ 20 := Nat.or_lt_two_pow i5 (Nat.pow_lt_pow_right (by decide) c20')
          have n6 : ∀ b, (t ||| 2 ^ (pe N i * 5 + pa N i)).testBit b = true ↔ ∃ j, j < i + 1 ∧ cd5 N j = b := fun b => by
            rw [Nat.testBit_or, Nat.testBit_two_pow, Bool.or_eq_true, decide_eq_true_eq, i6 b]
            constructor
            · rintro (⟨j, j1, j2⟩ | e)
              · exact ⟨j, by omega, j2⟩
              · exact ⟨i, Nat.lt_succ_self i, e⟩
            · rintro ⟨j, j1, j2⟩
              by_cases e : j = i
              · subst e
                exact Or.inr j2
              · exact Or.inl ⟨j, by omega, j2⟩
          right
          by_cases c8 : 8 ≤ i
          · rw [if_pos (nI_le c8 (by omega))]
            exact ⟨(t ||| 2 ^ (pe N i * 5 + pa N i), s), ⟨i1, i2, fun j hj h8 => i3 j (by omega) h8, n4, n5, n6⟩, rfl⟩
          · rw [if_neg (nI_ge (by omega) (by decide)), S_fit_114 hF cS hW hE (by omega) ck, ob_some, rk_in (show i < 8 by omega) (by decide), nI_clamp (by omega)]
            refine ⟨(t ||| 2 ^ (pe N i * 5 + pa N i), sD s 58 i (nI (mk (ftn w y N i) (nA w)))), ⟨fun c h1 h2 => ?_, ?_, fun j hj h8 => ?_, n4, n5, n6⟩, rfl⟩
            · show sD s 58 i (nI (mk (ftn w y N i) (nA w))) c = D c
              rw [sD_nr _ _ _ h2, i1 c h1 h2]
            · show sD s 58 i (nI (mk (ftn w y N i) (nA w))) 57 = A 57
              rw [sD_nr _ _ _ (by decide), i2]
            · show sD s 58 i (nI (mk (ftn w y N i) (nA w))) 58 j = nI (mk (ftn w y N j) (nA w))
              by_cases e : j = i
              · subst e
                rw [sD_eq]
              · rw [sD_nj _ _ _ e]
                exact i3 j (by omega) h8
      · rw [if_neg ck]
        exact Or.inl ⟨_, rfl, i1, Or.inl ⟨⟨i, hi, Or.inl (Bool.eq_false_iff.mpr ck)⟩, rfl⟩⟩) (fun f s hI => by
      obtain ⟨t, s⟩ := s
      dsimp only at hI
      obtain ⟨i1, i2, i3, i4, i5, i6⟩ := hI
      refine ⟨(nI 1, s), ?_, i1, Or.inr ⟨i4, rfl, ?_, ?_, i3⟩⟩
      · show g_Sightings_take_114_38 F E (f + 1) (nI y) (nI t) (nI n) s = _
        rw [s_Sightings_take_114_38]
        unfold b_Sightings_take_114_38
        rw [i2, hA0, if_pos (nI_le (Nat.le_refl _) (by omega))]
      · show s 57 0 = _
        rw [i2, hA0]
      · show s 57 1 = _
        rw [i2, hA1]) n F 0 (0, A) (by omega) (by omega) ⟨hA, rfl, fun j hj => absurd hj (Nat.not_lt_zero j), fun j hj => absurd hj (Nat.not_lt_zero j), (show (0 : Nat) < 2 ^ 20 by decide), fun b => ⟨fun z => by simp at z, fun ⟨j, j1, _⟩ => absurd j1 (Nat.not_lt_zero j)⟩⟩
    obtain ⟨v, B⟩ := r
    refine ⟨v, B, r1, r2, ?_⟩
    unfold gud
    rw [hnn]
    rcases r3 with ⟨⟨i, h1, h2⟩, h3⟩ | ⟨h1, h2, h3, h4, h5⟩
    · exact Or.inl ⟨fun z => z.2 i h1 h2, h3⟩
    · exact Or.inr ⟨⟨c, h1⟩, h2, h3, h4, h5⟩
  · rw [if_neg (fun z => by have := hz.mp z; omega)]
    exact ⟨nI 0, D, rfl, fun _ _ _ => rfl, Or.inl ⟨fun z => c z.1, rfl⟩⟩
end SC
