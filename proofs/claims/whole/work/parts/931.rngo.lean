/-! ===== rings: the question ===== -/
section RO
variable {F : Nat} {D : mx_D} {E : mx_E} {w : W_}
theorem valy_s (hW : WF w) {y s : Nat} (hs : s < nA w) (hy : y < nA w ∨ y = 9) : (val y = nI s ↔ y = s) ∧ (val y = -1 ↔ y = 9) := by
  have h8 := wf_A8 hW
  unfold val
  rcases hy with h | h
  · rw [if_neg (by omega)]
    refine ⟨nI_eq (by omega) (by omega), fun z => absurd z (nI_m1 (by omega)), fun z => by omega⟩
  · rw [if_pos h]
    exact ⟨⟨fun z => absurd z.symm (nI_m1 (by omega)), fun z => by omega⟩, fun _ => h, fun _ => rfl⟩
theorem M_ring_s (hF : 1000 ≤ F) (h7 : D 117 = w) (hW : WF w) {u : UU} (hu : ∀ x, x < nA w → D 132 x = u x) {s : Nat} (hs : s < nA w) (k46 : Int32 → Int32 → Int32 → Int32 → Int32 → mx_D → Option (Int32 × mx_D)) (l2 l3 l4 l5 : Int32) : ∀ k m f, m + k = 9 → k < f → 1 ≤ m → (∀ i, i < m → rT (T_ w u) s i < nA w) → (∀ i j, i < j → j < m → rT (T_ w u) s i ≠ rT (T_ w u) s j) → ∃ m' v', g_M_rings_74 F k46 f l2 l3 l4 l5 (nI s) (nI m) (nI (msk (T_ w u) s m)) (val (rT (T_ w u) s m)) D = b_M_rings_120 F k46 l2 l3 l4 l5 (nI s) (nI m') (nI (msk (T_ w u) s m')) v' D ∧ m' ≤ 8 ∧ msk (T_ w u) s m' < 256 ∧ ((v' = nI s ∧ rgm (T_ w u) s m') ∨ (¬ v' = nI s ∧ ∀ m, ¬ rgm (T_ w u) s m)) := by
  have h8 := wf_A8 hW
  intro k
  induction k with
  | zero =>
    intro m f hm hf m1 hin hdi
    obtain ⟨a, b⟩ := msk_bc m (fun i hi => by have := hin i hi; omega) hdi
    have := bc_8 _ a
    omega
  | succ k ih =>
    intro m f hm hf m1 hin hdi
    obtain ⟨f, rfl⟩ : ∃ g, f = g + 1 := ⟨f - 1, by omega⟩
    obtain ⟨a, b⟩ := msk_bc m (fun i hi => by have := hin i hi; omega) hdi
    have mb := bc_8 _ a
    have hym : rT (T_ w u) s m < nA w ∨ rT (T_ w u) s m = 9 := by
      obtain ⟨q, rfl⟩ : ∃ q, m = q + 1 := ⟨m - 1, by omega⟩
      exact T_c hW u _
    obtain ⟨vs, v9⟩ := valy_s hW hs hym
    -- a ring is not shorter
    have later : ∀ m', rgm (T_ w u) s m' → m ≤ m' := fun m' h => by
      rcases Nat.lt_or_ge m' m with q | q
      · exact absurd h.2.1.symm (hdi 0 m' h.1 q)
      · exact q
    rw [s_M_rings_74]
    unfold b_M_rings_74
    by_cases c9 : rT (T_ w u) s m = 9
    · rw [if_pos (v9.mpr c9)]
      refine ⟨m, _, rfl, by omega, a, Or.inr ⟨fun z => ?_, fun m' h => ?_⟩⟩
      · have := vs.mp z
        omega
      · have := later m' h
        by_cases e : m' = m
        · have e1 := h.2.1
          rw [e, c9] at e1
          omega
        · have := rgm_in (T_c hW u) h8 (T_9 hW u) hs h m (by omega)
          omega
    · rw [if_neg (fun z => c9 (v9.mp z))]
      by_cases cs : rT (T_ w u) s m = s
      · rw [if_pos (vs.mpr cs)]
        exact ⟨m, _, rfl, by omega, a, Or.inl ⟨vs.mpr cs, by omega, cs, fun i i0 im e => hdi 0 i i0 im e.symm⟩⟩
      · rw [if_neg (fun z => cs (vs.mp z))]
        have hyn : rT (T_ w u) s m < nA w := hym.resolve_right c9
        have ev : val (rT (T_ w u) s m) = nI (rT (T_ w u) s m) := if_neg c9
        rw [ev, nb_bit (by omega) (by omega)]
        cases hb : (msk (T_ w u) s m).testBit (rT (T_ w u) s m)
        · rw [if_neg (show ¬ false = true by decide), if_pos (show nI 0 = 0 from rfl), M_gets_s hF h7 hW hu hyn, ob_some, nI_add, nb_shl _ (by omega), nb_or, tN_val hW hyn]
          exact ih (m + 1) f (by omega) (by omega) (by omega) (fun i hi => by
            by_cases e : i = m
            · rw [e]
              exact hyn
            · exact hin i (by omega)) (fun i j hij hj e => by
            by_cases ej : j = m
            · rw [ej] at e
              have := (msk_tb (T_ w u) s m (rT (T_ w u) s m)).mpr ⟨i, by omega, e⟩
              rw [hb] at this
              exact absurd this (by decide)
            · exact hdi i j hij (by omega) e)
        · rw [if_pos rfl, if_neg (show ¬ nI 1 = 0 by decide)]
          refine ⟨m, _, rfl, by omega, a, Or.inr ⟨fun z => cs ((nI_eq (by omega) (by omega)).mp z), fun m' h => ?_⟩⟩
          obtain ⟨i, i1, i2⟩ := (msk_tb (T_ w u) s m _).mp hb
          have := later m' h
          by_cases e : m' = m
          · have e1 := h.2.1
            rw [e] at e1
            exact cs e1
          · exact rgm_dis h i m i1 (by omega) i2
/-- the least of some -/
theorem least_i (g : Nat → Nat) : ∀ m, 0 < m → ∃ i, i < m ∧ ∀ j, j < m → g i ≤ g j
  | 0, h => absurd h (Nat.lt_irrefl 0)
  | m + 1, _ => by
    by_cases c : m = 0
    · exact ⟨0, by omega, fun j hj => by
        have : j = 0 := by omega
        rw [this]
        exact Nat.le_refl _⟩
    · obtain ⟨i, i1, i2⟩ := least_i g m (by omega)
      by_cases q : g i ≤ g m
      · exact ⟨i, by omega, fun j hj => by
          by_cases e : j = m
          · rw [e]
            exact q
          · exact i2 j (by omega)⟩
      · exact ⟨m, by omega, fun j hj => by
          by_cases e : j = m
          · rw [e]
            exact Nat.le_refl _
          · have := i2 j (by omega)
            omega⟩
def rc (V : Nat → Nat) : Nat → Nat := fo (fun i a => a + if V i = 0 then 0 else 1) 0
def rm (V : Nat → Nat) : Nat → Nat := fo (fun i a => max a (V i)) 0
theorem rm_8 {V : Nat → Nat} {n : Nat} (h : ∀ i, i < n → V i ≤ 8) : ∀ k, k ≤ n → rm V k ≤ 8
  | 0, _ => Nat.zero_le 8
  | k + 1, hk => by
    show max (rm V k) (V k) ≤ 8
    have := rm_8 h k (by omega)
    have := h k (by omega)
    omega
theorem X_rings_s (hF : 1000 ≤ F) (hC : CC D w) (hW : WF w) {V : Nat → Nat} (hV : ∀ s, s < nA w → g_HatSearch_ringFrom F D (nI s) = some (nI (V s)) ∧ V s ≤ 8) (b : Bool) : g_HatSearch_ringsOf F D (b01 b) = some (if b = true then nI (rm V (nA w)) else nI (rc V (nA w))) := by
  have h8 := wf_A8 hW
  unfold g_HatSearch_ringsOf
  refine lu0 (fun f a => g_HatSearch_ringsOf_7 F D f (b01 b) (nI (rc V a)) (nI (rm V a)) (nI a)) (n := nA w) _ (by omega) (fun f a ha => ?_) (fun f => ?_)
  · rw [s_HatSearch_ringsOf_7]
    unfold b_HatSearch_ringsOf_7
    obtain ⟨v1, v2⟩ := hV a ha
    have r8 := rm_8 (fun i hi => (hV i hi).2) a (by omega)
    have ec : rc V (a + 1) = rc V a + if V a = 0 then 0 else 1 := rfl
    have em : rm V (a + 1) = max (rm V a) (V a) := rfl
    have ex : imx (nI (rm V a)) (nI (V a)) = nI (rm V (a + 1)) := by
      rw [iI_nI, iI_nI, imx_iI (by omega) (by omega) (by omega) (by omega), em, iI_nI]
      congr 1
      omega
    rw [c_24 hC, wf_A hW, if_neg (nI_ge ha (by omega)), v1, ob_some, ex, nI_add, nI_add, nI_add, ec]
    by_cases c : V a = 0
    · rw [if_pos c, if_pos (by rw [c]; decide)]
    · rw [if_neg c, if_neg (nI_nle (by omega) (by omega))]
  · rw [s_HatSearch_ringsOf_7]
    unfold b_HatSearch_ringsOf_7
    rw [c_24 hC, wf_A hW, if_pos (nI_le (Nat.le_refl _) (by omega))]
    cases b
    · rfl
    · rfl
theorem M_rings_s (hF : 1000 ≤ F) (h7 : D 117 = w) (hW : WF w) {u : UU} (hu : ∀ x, x < nA w → D 132 x = u x) {V : Nat → Nat} (hV : ∀ s, s < nA w → RV (T_ w u) s (V s) ∧ V s ≤ 8) (b : Bool) : g_M_rings_46 F F (b01 b) (nI 0) (nI 0) (nI 0) (nI 0) D = some (if b = true then nI (rm V (nA w)) else nI (rc V (nA w)), D) := by
  have h8 := wf_A8 hW
  obtain ⟨met, -, e⟩ := lpk0 (σ := Nat) (fun s met => met < 256 ∧ ∀ x, met.testBit x = true ↔ ∃ s' i, s' < s ∧ 2 ≤ V s' ∧ i < V s' ∧ rT (T_ w u) s' i = x) (fun f s met => g_M_rings_46 F f (b01 b) (nI (rc V s)) (nI (rm V s)) (nI met) (nI s) D) (fun _ => some (if b = true then nI (rm V (nA w)) else nI (rc V (nA w)), D)) (F := F) (n := nA w) (s := 0) (by omega) ⟨by decide, fun x => by
      rw [Nat.zero_testBit]
      exact ⟨fun z => absurd z (by decide), fun ⟨s', i, h, _⟩ => absurd h (Nat.not_lt_zero s')⟩⟩ (fun f s met hs hI => by
    obtain ⟨i1, i2⟩ := hI
    show ∃ met', _ ∧ g_M_rings_46 F (f + 1) (b01 b) (nI (rc V s)) (nI (rm V s)) (nI met) (nI s) D = g_M_rings_46 F f (b01 b) (nI (rc V (s + 1))) (nI (rm V (s + 1))) (nI met') (nI (s + 1)) D
    rw [s_M_rings_46]
    unfold b_M_rings_46
    rw [h7, wf_A hW, if_neg (nI_ge hs (by omega)), M_gets_s hF h7 hW hu hs, ob_some, nb_shl s (by omega), tN_val hW hs]
    have em1 : msk (T_ w u) s 1 = 2 ^ s := by
      rw [msk_s]
      exact Nat.zero_or _
    obtain ⟨m, v', r1, r2, r3, r4⟩ := M_ring_s (F := F) (D := D) hF h7 hW hu hs (g_M_rings_46 F f) (b01 b) (nI (rc V s)) (nI (rm V s)) (nI met) 8 1 F (by omega) (by omega) (Nat.le_refl 1) (fun i hi => by
      have : i = 0 := by omega
      rw [this]
      exact hs) (fun i j hij hj => by omega)
    rw [em1] at r1
    have r1' : g_M_rings_74 F (g_M_rings_46 F f) F (b01 b) (nI (rc V s)) (nI (rm V s)) (nI met) (nI s) (nI 1) (nI (2 ^ s)) (val (T_ w u s)) D = _ := r1
    rw [r1']
    unfold b_M_rings_120
    obtain ⟨hRV, hV8⟩ := hV s hs
    have rm8 := rm_8 (fun i hi => (hV i hi).2) s (by omega)
    have ec : rc V (s + 1) = rc V s + if V s = 0 then 0 else 1 := rfl
    have emx : rm V (s + 1) = max (rm V s) (V s) := rfl
    -- nothing new
    have same : V s = 0 → ∃ met', (met' < 256 ∧ ∀ x, met'.testBit x = true ↔ ∃ s' i, s' < s + 1 ∧ 2 ≤ V s' ∧ i < V s' ∧ rT (T_ w u) s' i = x) ∧ g_M_rings_46 F f (b01 b) (nI (rc V s)) (nI (rm V s)) (nI met) (nI s + nI 1) D = g_M_rings_46 F f (b01 b) (nI (rc V (s + 1))) (nI (rm V (s + 1))) (nI met') (nI (s + 1)) D := fun h0 => by
      refine ⟨met, ⟨i1, fun x => ?_⟩, ?_⟩
      · rw [i2 x]
        constructor
        · rintro ⟨s', i, q1, q2⟩
          exact ⟨s', i, by omega, q2⟩
        · rintro ⟨s', i, q1, q2, q3⟩
          have : s' ≠ s := fun z => by
            rw [z, h0] at q2
            omega
          exact ⟨s', i, by omega, q2, q3⟩
      · rw [nI_add, ec, emx, h0, if_pos rfl, Nat.max_zero]
        rfl
    have vz : (∀ m', 2 ≤ m' → rgm (T_ w u) s m' → lea (T_ w u) s m' → False) → V s = 0 := fun h => by
      rcases hRV with ⟨q1, q2, q3⟩ | ⟨q1, -⟩
      · exact absurd (h _ q1 q2 q3) id
      · exact q1
    rcases r4 with ⟨rv, hr⟩ | ⟨rv, hr⟩
    · rw [if_pos rv]
      by_cases c2 : m < 2
      · rw [if_pos (by rw [Int32.lt_iff_toInt_lt, nI_toInt (by omega), nI_toInt (by decide)]; omega)]
        exact same (vz (fun m' h1 h2 _ => by
          have := rgm_u hr h2
          omega))
      · rw [if_neg (nI_nlt (by omega) (by omega)), nb_and]
        have hz := nI_z (met &&& msk (T_ w u) s m) (by have := Nat.and_le_left (n := met) (m := msk (T_ w u) s m); omega)
        by_cases c3 : met &&& msk (T_ w u) s m = 0
        · rw [if_pos (hz.mpr c3)]
          have sep : ∀ x, met.testBit x = true → (msk (T_ w u) s m).testBit x = true → False := fun x h1 h2 => by
            have e := Nat.testBit_and met (msk (T_ w u) s m) x
            rw [c3, Nat.zero_testBit, h1, h2] at e
            exact absurd e (by decide)
          have hl : lea (T_ w u) s m := fun i hi => by
            rcases Nat.lt_or_ge (rT (T_ w u) s i) s with q | q
            · exfalso
              obtain ⟨i0, j1, j2⟩ := least_i (rT (T_ w u) s) m hr.1
              obtain ⟨k1, k2⟩ := rgm_mem hr j1
              have l0 : rT (T_ w u) s i0 < s := Nat.lt_of_le_of_lt (j2 i hi) q
              have rv0 : RV (T_ w u) (rT (T_ w u) s i0) m := Or.inl ⟨by omega, k1, fun j _ => by
                obtain ⟨k, q1, q2⟩ := k2 j
                rw [q2]
                exact j2 k q1⟩
              have v0 := RV_u (hV (rT (T_ w u) s i0) (by omega)).1 rv0
              exact sep (rT (T_ w u) s i0) ((i2 _).mpr ⟨rT (T_ w u) s i0, 0, l0, by omega, by omega, rfl⟩) ((msk_tb _ _ _ _).mpr ⟨i0, j1, rfl⟩)
            · exact q
          have hVm : V s = m := RV_u hRV (Or.inl ⟨by omega, hr, hl⟩)
          have ex : imx (nI (rm V s)) (nI m) = nI (rm V (s + 1)) := by
            rw [iI_nI, iI_nI, imx_iI (by omega) (by omega) (by omega) (by omega), emx, hVm, iI_nI]
            congr 1
            omega
          rw [ex, nI_add, nI_add, nb_or, ec, hVm, if_neg (show ¬ m = 0 by omega)]
          refine ⟨met ||| msk (T_ w u) s m, ⟨Nat.or_lt_two_pow (n := 8) i1 r3, fun x => ?_⟩, rfl⟩
          rw [Nat.testBit_or, Bool.or_eq_true, i2 x, msk_tb]
          constructor
          · rintro (⟨s', i, q1, q2⟩ | ⟨i, q1, q2⟩)
            · exact ⟨s', i, by omega, q2⟩
            · exact ⟨s, i, Nat.lt_succ_self s, by omega, by omega, q2⟩
          · rintro ⟨s', i, q1, q2, q3, q4⟩
            by_cases e : s' = s
            · rw [e] at q3 q4
              exact Or.inr ⟨i, by omega, q4⟩
            · exact Or.inl ⟨s', i, by omega, q2, q3, q4⟩
        · rw [if_neg (fun z => c3 (hz.mp z))]
          refine same (vz (fun m' h1 h2 hl => ?_))
          obtain rfl := rgm_u hr h2
          obtain ⟨x, -, hx, -⟩ := low_s (m := met &&& msk (T_ w u) s m) (by have := Nat.and_le_left (n := met) (m := msk (T_ w u) s m); omega) c3
          rw [Nat.testBit_and, Bool.and_eq_true, i2 x, msk_tb] at hx
          obtain ⟨⟨s', j, q1, q2, q3, q4⟩, i, p1, p2⟩ := hx
          rcases (hV s' (by omega)).1 with ⟨-, g2, -⟩ | ⟨g1, -⟩
          · obtain ⟨k1, k2⟩ := rgm_mem hr p1
            rw [p2, ← q4] at k2
            obtain ⟨k, k3, k4⟩ := k2 (V s' - j)
            rw [rT_add, show j + (V s' - j) = V s' by omega, g2.2.1] at k4
            have := hl k k3
            omega
          · omega
    · rw [if_neg rv]
      exact same (vz (fun m' _ h _ => hr m' h))) (fun f met hI => by
    show g_M_rings_46 F (f + 1) (b01 b) (nI (rc V (nA w))) (nI (rm V (nA w))) (nI met) (nI (nA w)) D = _
    rw [s_M_rings_46]
    unfold b_M_rings_46
    rw [h7, wf_A hW, if_pos (nI_le (Nat.le_refl _) (by omega))]
    cases b
    · rfl
    · rfl)
  exact e
theorem op_rings (hF : 10000000000 ≤ F) (h : RL D E) (a b : Int32) : ∃ r D1 D2, g_X_rings F a b D = some (r, D1) ∧ g_M_rings F a b D1 = some (r, D2) ∧ RL D2 E := by
  have hW := h.1
  have hC := h.2.2.1
  have h8 := wf_A8 hW
  unfold g_X_rings
  rw [X_canAsk_s hC hW, b01_if]
  rcases yr_c (D 117) a with q | ⟨y, hy, rfl, hP, q⟩
  · rw [q, if_neg (by decide)]
    refine ⟨_, D, D, rfl, ?_, h⟩
    unfold g_M_rings
    rw [M_isYear_s hW, b01_if, q, if_neg (by decide)]
  · rw [q, if_pos rfl, rng_s b (m := 1) (by decide)]
    have e1 : (lN 1).toInt = ((1 : Nat) : Int) := lN_toInt (by decide)
    rcases vx_c b 2 (by decide) with z | ⟨k, hk, rfl⟩
    · rw [z, if_neg (by decide)]
      refine ⟨_, D, D, rfl, ?_, h⟩
      unfold g_M_rings
      rw [M_isYear_s hW, b01_if, q, if_pos rfl, M_in_i b e1, b01_if, z, if_neg (by decide)]
    · have z : vx (nI k) 2 = true := by rw [vx_nI (by omega)]; exact decide_eq_true hk
      rw [z, if_pos rfl]
      obtain ⟨A, a1, a2, a3, a4⟩ := X_find_s (F := F) (by omega) hC hW hy false
      have hFX : FX D A := fun c hc => a2 c (by omega)
      have e117 := hFX 117 (by omega)
      have cA : CC A (D 117) := CC_of hC (fun c hc => a2 c (by omega))
      obtain ⟨M, m1, m2, m3, m4, m5⟩ := M_handAll_s (D := A) hF (by rw [e117]; exact hW) hy
      rw [e117] at m4 m5
      have hRL := RL_q h (FR_XM hFX (FM_hand m2 m3)) (E' := E) (fun _ _ _ => rfl)
      have a1' : g_HatSearch_find F (nI y) (nI 0) D = some A := a1
      have eM : g_M_rings F (nI y) (nI k) A = if M 116 30 = 0 then some (-1, M) else g_M_rings_46 F F (nI k) (nI 0) (nI 0) (nI 0) (nI 0) M := by
        unfold g_M_rings
        rw [M_isYear_s (by rw [e117]; exact hW), e117, b01_if, q, if_pos rfl, M_in_i (nI k) e1, b01_if, z, if_pos rfl, m1, ob_some]
      rw [a1', ob_some]
      have hl := HL_len hW y
      cases hL : HL (D 117) y with
      | nil =>
        rw [hL] at a3 m4
        rw [if_pos (by rw [a3]; rfl)]
        exact ⟨_, A, M, rfl, by rw [eM, if_pos (by rw [m4]; rfl)], hRL⟩
      | cons u B =>
        have e2 : acc false [] (u :: B) = [u] := rfl
        have hi := HL_inj hW y hL
        rw [hL] at a3 a4 m4 hl
        rw [e2] at a3 a4
        have hX : ∀ s, ∃ v, s < nA (D 117) → g_HatSearch_ringFrom F A (nI s) = some (nI v) ∧ RV (T_ (D 117) u) s v ∧ v ≤ 8 := fun s => by
          by_cases c : s < nA (D 117)
          · obtain ⟨v, v1, v2⟩ := X_ring_s (F := F) (D := A) (by omega) cA hW hi (fun x hx sx => a4 u [] rfl x hx sx) c 8 0 F (by omega) (by omega) c (fun i i0 i1 => by omega)
            exact ⟨v, fun _ => ⟨v1, v2⟩⟩
          · exact ⟨0, fun h => absurd h c⟩
        obtain ⟨V, hV⟩ := Classical.axiomOfChoice hX
        have xr : ∀ c, g_HatSearch_ringsOf F A (b01 c) = some (if c = true then nI (rm V (nA (D 117))) else nI (rc V (nA (D 117)))) := fun c => X_rings_s (F := F) (by omega) cA hW (fun s hs => ⟨(hV s hs).1, (hV s hs).2.2⟩) c
        have mr : ∀ c, g_M_rings_46 F F (b01 c) (nI 0) (nI 0) (nI 0) (nI 0) M = some (if c = true then nI (rm V (nA (D 117))) else nI (rc V (nA (D 117))), M) := fun c => M_rings_s (F := F) (by omega) ((m2 117 (by decide) (by decide) (by decide) (by decide)).trans e117) hW (u := u) (fun x hx => m5 u B hL x hx) (fun s hs => (hV s hs).2) c
        have nz : ¬ M 116 30 = 0 := by rw [m4]; exact fun z => absurd ((nI_z _ hl).mp z) (by simp)
        rw [if_neg (by rw [a3]; exact fun z => absurd ((nI_z 1 (by decide)).mp z) (by decide))]
        rcases (show k = 0 ∨ k = 1 by omega) with rfl | rfl
        · have x0 : g_HatSearch_ringsOf F A (nI 0) = _ := xr false
          have y0 : g_M_rings_46 F F (nI 0) (nI 0) (nI 0) (nI 0) (nI 0) M = _ := mr false
          rw [if_neg (show ¬ nI 0 = nI 1 by decide), x0, ob_some]
          exact ⟨_, A, M, rfl, by rw [eM, if_neg nz, y0], hRL⟩
        · have x0 : g_HatSearch_ringsOf F A (nI 1) = _ := xr true
          have y0 : g_M_rings_46 F F (nI 1) (nI 0) (nI 0) (nI 0) (nI 0) M = _ := mr true
          rw [if_pos rfl, x0, ob_some]
          exact ⟨_, A, M, rfl, by rw [eM, if_neg nz, y0], hRL⟩
end RO
