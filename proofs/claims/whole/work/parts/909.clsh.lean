/-! ===== clash, shuts, least ===== -/
section CL2
variable {D : mx_D} {E : mx_E} {w : W_} {F : Nat}
theorem CLS_N (hW : WF w) {y S : Nat} (hS : sub S (nA w)) : CLS w y S ↔ ¬ ∃ m, bx (RM w) m ∧ offN w (hi w y) S m ≤ nV w := by
  constructor
  · rintro h ⟨m, m1, m2⟩
    exact h _ (N_SOL m1 m2)
  · intro h m hm
    obtain ⟨q1, q2, -⟩ := SOL_N hW hS (fun _ _ => Int.le_refl _) hm
    exact h ⟨_, q1, q2⟩
theorem BST_eq {y a b : Nat} (ha : BST w y a (sM w + 1)) (hb : BST w y b (sM w + 1)) : a = b := by
  obtain ⟨a1, a2, a3⟩ := ha
  obtain ⟨b1, b2, b3⟩ := hb
  have la := nand_le a2
  have lb := nand_le b2
  have p := a3 b (by omega) b2 b1
  have q := b3 a (by omega) a2 a1
  have := p.2 (by omega)
  have := q.2 (by omega)
  omega
/-- the reference's search -/
theorem M_clash_s (hF : 20000 ≤ F) (hW : WF (D 117)) {y : Nat} (hy : y ≤ 30) : ∃ r D', g_M_clashing F (nI y) D = some (r, D') ∧ FM D D' ∧ ((r = -1 ∧ ¬ CLS (D 117) y (sM (D 117))) ∨ ∃ b, r = nI b ∧ CLS (D 117) y (sM (D 117)) ∧ BST (D 117) y b (sM (D 117) + 1)) := by
  have hS := sM_lt8 hW
  obtain ⟨A, a1, a2, a3⟩ := M_keepUn_s (F := F) (by omega) hW y
  have eA : A 117 = D 117 := a2 117 (by decide) (by decide)
  have fm : ∀ G : mx_D, (∀ c, c ≠ 123 → c ≠ 124 → c ≠ 125 → G c = A c) → FM D G := fun G hG => by
    have f : ∀ c, c ≠ 123 → c ≠ 124 → c ≠ 125 → c ≠ 127 → G c = D c := fun c q1 q2 q3 q4 => by rw [hG c q1 q2 q3, a2 c q1 q4]
    have f116 := f 116 (by decide) (by decide) (by decide) (by decide)
    exact ⟨fun c hc => f c (by omega) (by omega) (by omega) (by omega), ⟨f _ (by decide) (by decide) (by decide) (by decide), f _ (by decide) (by decide) (by decide) (by decide), f _ (by decide) (by decide) (by decide) (by decide), f _ (by decide) (by decide) (by decide) (by decide), f _ (by decide) (by decide) (by decide) (by decide), f _ (by decide) (by decide) (by decide) (by decide)⟩, by rw [f116], by rw [f116], by rw [f116]⟩
  have can : ∀ (G : mx_D) (S : Nat), (∀ c, c ≠ 123 → c ≠ 124 → c ≠ 125 → G c = A c) → sub S (nA (D 117)) → ∃ b G', g_M_canBeLevel F (nI S) G = some (b01 b, G') ∧ (∀ c, c ≠ 123 → c ≠ 124 → c ≠ 125 → G' c = A c) ∧ (b = false ↔ CLS (D 117) y S) := fun G S hG hsub => by
    have eG : G 117 = D 117 := (hG 117 (by decide) (by decide) (by decide)).trans eA
    obtain ⟨b, G', g1, g2, g3⟩ := M_canBe_s (D := G) hF (by rw [eG]; exact hW) (hs := hi (D 117) y) (by rw [eG]; exact hi_9 hW hy) (by rw [eG]; exact fun x hx => by rw [hG 127 (by decide) (by decide) (by decide)]; exact a3 x hx) (S := S) (by rw [eG]; exact hsub)
    rw [eG] at g3
    refine ⟨b, G', g1, fun c q1 q2 q3 => by rw [g2 c q1 q2 q3, hG c q1 q2 q3], ?_⟩
    rw [CLS_N hW hsub, ← g3]
    cases b <;> simp
  unfold g_M_clashing
  rw [M_sitters_s (by omega) hW, ob_some, a1, ob_some]
  obtain ⟨b, B, b1, b2, b3⟩ := can A (sM (D 117)) (fun _ _ _ _ => rfl) (sub_sM _)
  rw [b1, ob_some]
  dsimp only
  cases b
  · rw [if_pos zb0]
    have hcl := b3.mp rfl
    generalize hw : D 117 = w at hS hW hcl can eA
    obtain ⟨r, r1, r2, c, r3, r4⟩ := lp (fun k (s : Nat × mx_D) => (∀ c, c ≠ 123 → c ≠ 124 → c ≠ 125 → s.2 c = A c) ∧ BST w y s.1 k) (fun (r : Int32 × mx_D) => (∀ c, c ≠ 123 → c ≠ 124 → c ≠ 125 → r.2 c = A c) ∧ ∃ b, r.1 = nI b ∧ BST w y b (sM w + 1)) (fun f k s => g_M_clashing_25 F f (nI (sM w)) (nI s.1) (nI k) s.2) (sM w + 1) (fun f k s hk hI => by
      obtain ⟨bb, G⟩ := s
      obtain ⟨i1, i2, i3, i4⟩ := hI
      dsimp only at i1 i2 i3 i4
      have hbb := nand_le i3
      have bk := bc_8 k (by omega)
      have bbb := bc_8 bb (by omega)
      show (∃ r, g_M_clashing_25 F (f + 1) (nI (sM w)) (nI bb) (nI k) G = some r ∧ _) ∨ ∃ s' : Nat × mx_D, _ ∧ g_M_clashing_25 F (f + 1) (nI (sM w)) (nI bb) (nI k) G = g_M_clashing_25 F f (nI (sM w)) (nI s'.1) (nI (k + 1)) s'.2
      right
      rw [s_M_clashing_25]
      unfold b_M_clashing_25
      rw [if_neg (nI_nlt (by omega) (by omega)), nb_not, nI_add]
      have stay : ∀ G' : mx_D, (∀ c, c ≠ 123 → c ≠ 124 → c ≠ 125 → G' c = A c) → (nand k (sM w) = 0 → CLS w y k → bc bb ≤ bc k ∧ (bc k = bc bb → bb ≤ k)) → ∃ s' : Nat × mx_D, ((∀ c, c ≠ 123 → c ≠ 124 → c ≠ 125 → s'.2 c = A c) ∧ BST w y s'.1 (k + 1)) ∧ g_M_clashing_25 F f (nI (sM w)) (nI bb) (nI (k + 1)) G' = g_M_clashing_25 F f (nI (sM w)) (nI s'.1) (nI (k + 1)) s'.2 := fun G' hG hh => by
        refine ⟨(bb, G'), ⟨hG, i2, i3, fun z hz hn hc => ?_⟩, rfl⟩
        by_cases e : z = k
        · subst e
          exact hh hn hc
        · exact i4 z (by omega) hn hc
      by_cases cn : nand k (sM w) = 0
      · have hsub : sub k (nA w) := fun x hx => sub_sM w x (nand_sub cn x hx)
        obtain ⟨b, G', g1, g2, g3⟩ := can G k i1 hsub
        have take : b = false → (bc k < bc bb ∨ (bc k = bc bb ∧ k < bb)) → ∃ s' : Nat × mx_D, ((∀ c, c ≠ 123 → c ≠ 124 → c ≠ 125 → s'.2 c = A c) ∧ BST w y s'.1 (k + 1)) ∧ g_M_clashing_25 F f (nI (sM w)) (nI k) (nI (k + 1)) G' = g_M_clashing_25 F f (nI (sM w)) (nI s'.1) (nI (k + 1)) s'.2 := fun hb hh => by
          refine ⟨(k, G'), ⟨g2, g3.mp hb, cn, fun z hz hn hc => ?_⟩, rfl⟩
          dsimp only
          by_cases e : z = k
          · subst e
            exact ⟨Nat.le_refl _, fun _ => Nat.le_refl _⟩
          · have := i4 z (by omega) hn hc
            refine ⟨by omega, fun e2 => ?_⟩
            have := this.2
            omega
        rw [if_pos (by rw [cn]; rfl), M_bits_s (by omega) (by omega), ob_some, M_bits_s (by omega) (by omega), ob_some]
        by_cases c1 : bc k < bc bb
        · rw [if_pos (nI_lt c1 (by omega)), g1, ob_some]
          dsimp only
          cases b
          · rw [if_pos zb0]
            exact take rfl (Or.inl c1)
          · rw [if_neg zb1]
            exact stay G' g2 (fun _ hc => absurd (g3.mpr hc) (by decide))
        · rw [if_neg (nI_nlt (by omega) (by omega)), ob_some, ob_some]
          by_cases c2 : bc k = bc bb
          · rw [if_pos (by rw [c2])]
            by_cases c3 : bb ≤ k
            · rw [if_pos (nI_le c3 (by omega))]
              exact stay G i1 (fun _ _ => ⟨by omega, fun _ => c3⟩)
            · rw [if_neg (nI_ge (by omega) (by omega)), g1, ob_some]
              dsimp only
              cases b
              · rw [if_pos zb0]
                exact take rfl (Or.inr ⟨c2, by omega⟩)
              · rw [if_neg zb1]
                exact stay G' g2 (fun _ hc => absurd (g3.mpr hc) (by decide))
          · rw [if_neg (fun e => c2 ((nI_eq (by omega) (by omega)).mp e))]
            exact stay G i1 (fun _ _ => ⟨by omega, fun e => absurd e c2⟩)
      · rw [if_neg (fun e => cn ((nI_z _ (by unfold nand; have h1 : k ^^^ (k &&& sM w) < 2 ^ 8 := Nat.xor_lt_two_pow (by omega) (Nat.lt_of_le_of_lt Nat.and_le_left (by omega)); omega)).mp e))]
        exact stay G i1 (fun e => absurd e cn)) (fun f s hI => by
      show ∃ r, g_M_clashing_25 F (f + 1) (nI (sM w)) (nI s.1) (nI (sM w + 1)) s.2 = some r ∧ _
      rw [s_M_clashing_25]
      unfold b_M_clashing_25
      rw [if_pos (nI_lt (by omega) (by omega))]
      exact ⟨_, rfl, hI.1, s.1, rfl, hI.2⟩) (sM w + 1) F 0 (sM w, B) (by omega) (by omega) ⟨b2, hcl, nand_self _, fun z hz => absurd hz (Nat.not_lt_zero z)⟩
    refine ⟨r.1, r.2, r1, fm _ r2, Or.inr ⟨c, r3, hcl, r4⟩⟩
  · rw [if_neg zb1]
    exact ⟨_, B, rfl, fm _ b2, Or.inl ⟨rfl, fun hc => absurd (b3.mpr hc) (by decide)⟩⟩
theorem op_clash (hF : 20000 ≤ F) (h : RL D E) (a : Int32) : ∃ r D1 D2, g_X_clash F a D = some (r, D1) ∧ g_M_clash F a D1 = some (r, D2) ∧ RL D2 E := by
  have hW := h.1
  have hC := h.2.2.1
  unfold g_X_clash
  rw [X_canAsk_s hC hW, b01_if]
  rcases yr_c (D 117) a with q | ⟨y, hy, rfl, hP, q⟩
  · rw [q, if_neg (by decide)]
    refine ⟨_, D, D, rfl, ?_, h⟩
    unfold g_M_clash
    rw [M_isYear_s hW, b01_if, q, if_neg (by decide)]
  · rw [q, if_pos rfl]
    obtain ⟨r, A, a1, a2, a3⟩ := X_clash_s (F := F) (by omega) hC hW hy
    have e117 : A 117 = D 117 := a2 117 (by omega)
    obtain ⟨r', M, m1, m2, m3⟩ := M_clash_s (D := A) hF (by rw [e117]; exact hW) hy
    rw [e117] at m3
    have hRL := RL_q h (FR_XM a2 m2) (E' := E) (fun _ _ _ => rfl)
    have hS := sM_lt8 hW
    have eM : g_M_clash F (nI y) A = if r' = -1 then some (-1, M) else Option.bind (g_M_bits F r') (fun r2 => some (r2, M)) := by
      unfold g_M_clash
      rw [M_isYear_s (by rw [e117]; exact hW), b01_if, e117, q, if_pos rfl, m1, ob_some]
    rw [a1, ob_some]
    dsimp only
    rcases a3 with ⟨rfl, z⟩ | ⟨z1, z2, z3⟩
    · rcases m3 with ⟨rfl, -⟩ | ⟨b, -, y2, -⟩
      · rw [if_pos z0]
        refine ⟨_, A, M, rfl, ?_, hRL⟩
        rw [eM, if_pos rfl]
      · exact absurd y2 z
    · rcases m3 with ⟨-, y1⟩ | ⟨b, rfl, -, y3⟩
      · exact absurd z2 y1
      · obtain rfl := BST_eq z3 y3
        have hr := nand_le z3.2.1
        rw [if_neg (fun e => by have := (nI_z _ (by omega)).mp e; omega), bitC r (by omega)]
        refine ⟨_, A, M, rfl, ?_, hRL⟩
        rw [eM, if_neg (nI_m1 (by omega)), M_bits_s (by omega) (by omega), ob_some]
theorem op_shuts (hF : 20000 ≤ F) (h : RL D E) (a : Int32) : ∃ r D1 D2, g_X_shuts F a D = some (r, D1) ∧ g_M_shuts F a D1 = some (r, D2) ∧ RL D2 E := by
  have hW := h.1
  have hC := h.2.2.1
  unfold g_X_shuts
  rw [X_canAsk_s hC hW, b01_if]
  rcases yr_c (D 117) a with q | ⟨y, hy, rfl, hP, q⟩
  · rw [q, if_neg (by decide)]
    refine ⟨_, D, D, rfl, ?_, h⟩
    unfold g_M_shuts
    rw [M_isYear_s hW, b01_if, q, if_neg (by decide)]
  · rw [q, if_pos rfl]
    obtain ⟨r, A, a1, a2, a3⟩ := X_clash_s (F := F) (by omega) hC hW hy
    have e117 : A 117 = D 117 := a2 117 (by omega)
    obtain ⟨r', M, m1, m2, m3⟩ := M_clash_s (D := A) hF (by rw [e117]; exact hW) hy
    rw [e117] at m3
    have hRL := RL_q h (FR_XM a2 m2) (E' := E) (fun _ _ _ => rfl)
    have hS := sM_lt8 hW
    have eM : g_M_shuts F (nI y) A = some (r', M) := by
      unfold g_M_shuts
      rw [M_isYear_s (by rw [e117]; exact hW), b01_if, e117, q, if_pos rfl, m1, ob_some]
    rw [a1, ob_some]
    dsimp only
    rcases a3 with ⟨rfl, z⟩ | ⟨z1, z2, z3⟩
    · rcases m3 with ⟨rfl, -⟩ | ⟨b, -, y2, -⟩
      · rw [if_pos z0]
        refine ⟨_, A, M, rfl, ?_, hRL⟩
        rw [eM]
      · exact absurd y2 z
    · rcases m3 with ⟨-, y1⟩ | ⟨b, rfl, -, y3⟩
      · exact absurd z2 y1
      · obtain rfl := BST_eq z3 y3
        have hr := nand_le z3.2.1
        rw [if_neg (fun e => by have := (nI_z _ (by omega)).mp e; omega)]
        refine ⟨_, A, M, rfl, ?_, hRL⟩
        rw [eM]
/-- least by some sawing: one inch less at a time, as long as it settles -/
theorem op_least1 (hF : 30000 ≤ F) (h : RL D E) {y : Nat} (hy : y ≤ 30) (hP : (decide (0 < nP (D 117)) && vx (nI y) 31) = true) : ∃ r D1 D2, g_X_least F (nI y) (nI 1) D = some (r, D1) ∧ g_M_least F (nI y) (nI 1) D1 = some (r, D2) ∧ RL D2 E := by
  have hW := h.1
  have hC := h.2.2.1
  have h8 := wf_A8 hW
  have hb := hi_9 hW hy
  obtain ⟨A, a1, a2, a3⟩ := H_take_s (F := F) (by omega) hC hW y
  have eA : CC A (D 117) := CC_of hC (fun c hc => a2 c (by omega))
  have ab := apa_b (pm := pM (D 117)) (b := ba (D 117)) h8 (sub_sM (D 117)) (hi_r hW hy)
  -- the class
  have cls : ∀ (k f : Nat) (s : mx_D) (l : Int), 0 ≤ l → l ≤ 20000 → l = (k : Int) → k < f → (∀ c, c < 34 ∨ 42 < c → s c = A c) → HT s (nA (D 117)) (hi (D 117) y) (pM (D 117)) (sM (D 117)) (ba (D 117)) → (∃ m, SOL (D 117) (hi (D 117) y) (sM (D 117)) l (fun _ => 0) m) → ∃ l' s', g_X_least_53 F f (iI l) s = some (iI l', s') ∧ (∀ c, c < 34 ∨ 42 < c → s' c = A c) ∧ 0 ≤ l' ∧ (∃ m, SOL (D 117) (hi (D 117) y) (sM (D 117)) l' (fun _ => 0) m) ∧ ∀ z, 0 ≤ z → z < l' → ∀ m, ¬ SOL (D 117) (hi (D 117) y) (sM (D 117)) z (fun _ => 0) m := by
    intro k
    induction k with
    | zero =>
      intro f s l h0 hbig hl hf hS hT hm
      obtain ⟨f, rfl⟩ : ∃ g, f = g + 1 := ⟨f - 1, by omega⟩
      obtain rfl : l = 0 := by omega
      refine ⟨0, s, ?_, hS, Int.le_refl _, hm, fun z q1 q2 => by omega⟩
      rw [s_X_least_53]
      unfold b_X_least_53
      rw [if_pos (by decide)]
      rfl
    | succ k ih =>
      intro f s l h0 hbig hl hf hS hT hm
      obtain ⟨f, rfl⟩ : ∃ g, f = g + 1 := ⟨f - 1, by omega⟩
      have hCs : CC s (D 117) := CC_of eA (fun c hc => hS c (by omega))
      obtain ⟨B, b1, b2, b3⟩ := S_begin_s (F := F) (by omega) hCs hW
      have hTB : HT B (nA (D 117)) (hi (D 117) y) (pM (D 117)) (sM (D 117)) (ba (D 117)) := by
        unfold HT at hT ⊢
        rw [b2 35 (by decide) (by decide), b2 36 (by decide) (by decide), b2 34 (by decide) (by decide)]
        exact hT
      obtain ⟨b, C, c1, c2, c3⟩ := S_settle_s (D := B) (F := F) (by omega) hW hb hTB (sub_sM _) sM_st (L := l - 1) (by omega) (by omega) (m0 := fun _ => 0) (fun p hp => ⟨(b3 p hp).1, (b3 p hp).2, Int.le_refl _, Int.natCast_nonneg _⟩)
      have SC : ∀ c, c < 34 ∨ 42 < c → C c = A c := fun c hc => by rw [c2 c (by omega), b2 c (by omega) (by omega), hS c hc]
      have HC : HT C (nA (D 117)) (hi (D 117) y) (pM (D 117)) (sM (D 117)) (ba (D 117)) := by
        unfold HT at hTB ⊢
        rw [c2 35 (by omega), c2 36 (by omega), c2 34 (by omega)]
        exact hTB
      have pos : ¬ iI l ≤ 0 := by
        rw [iI_z, iI_le (by omega) (by omega) (by omega) (by omega)]
        omega
      have e1 : g_X_least_53 F (f + 1) (iI l) s = if b = true then g_X_least_53 F f (iI (l - 1)) C else some (iI l, C) := by
        rw [s_X_least_53]
        unfold b_X_least_53
        have em : iI l - nI 1 = iI (l - 1) := by rw [iI_nI, iI_sub]; rfl
        have em2 : iI l + (-1 : Int32) = iI (l - 1) := by rw [iI_m1, iI_add]; rfl
        rw [if_neg pos, b1, ob_some, hTB.2.2.1, em, c1, ob_some, em2]
        cases b
        · rw [if_pos zb0, if_neg (by decide)]
        · rw [if_neg zb1, if_pos rfl]
      rw [e1]
      cases b
      · rw [if_neg (by decide)] at c3 ⊢
        refine ⟨l, C, rfl, SC, h0, hm, fun z q1 q2 m hz => c3 m ⟨hz.1, ?_⟩⟩
        have := hz.2
        omega
      · rw [if_pos rfl] at c3 ⊢
        obtain ⟨m, n1, n2⟩ := c3
        exact ih f C (l - 1) (by omega) (by omega) (by omega) (by omega) SC HC ⟨m, n2.1⟩
  have s0 : ∃ m, SOL (D 117) (hi (D 117) y) (sM (D 117)) (apa (hi (D 117) y) (pM (D 117)) (ba (D 117)) (sM (D 117))) (fun _ => 0) m := by
    refine ⟨fun _ => 0, fun p hp => ⟨Int.le_refl _, Int.natCast_nonneg _⟩, ?_⟩
    have e : offI (D 117) (hi (D 117) y) (sM (D 117)) (fun _ => 0) = apa (hi (D 117) y) (pM (D 117)) (ba (D 117)) (sM (D 117)) := by
      refine apa_c (fun x hx => ?_)
      unfold hsm
      rw [sM_st x hx, if_pos rfl, Int.sub_zero]
    rw [e]
    exact Int.le_refl _
  obtain ⟨l', B, b1, b2, b3, ⟨m, b4⟩, b5⟩ := cls (apa (hi (D 117) y) (pM (D 117)) (ba (D 117)) (sM (D 117))).toNat F A _ ab.1 ab.2 (by omega) (by omega) (fun _ _ => rfl) a3 s0
  · have hFX : FX D B := FX_t (FX_h a2) (fun c hc => b2 c (by omega))
    have e117 : B 117 = D 117 := hFX 117 (by omega)
    obtain ⟨G, g1, g2, g3⟩ := M_lay_s (D := B) (F := F) (by omega) (by rw [e117]; exact hW) y
    have eG : G 117 = D 117 := (g2 117 (by decide)).trans e117
    obtain ⟨M, m1, m2, ⟨-, -, ⟨l, m3, m4, m5, m6⟩, -⟩⟩ := M_sawAll_s (D := G) (F := F) (by omega) (by rw [eG]; exact hW) hy (S := sM (D 117)) (by rw [eG]; exact sub_sM _)
    rw [eG] at m5 m6
    have tb := tot_b hW
    have hl : l' = l := by
      obtain ⟨q1, q2, -⟩ := SOL_N hW (sub_sM _) (fun _ _ => Int.le_refl _) b4
      have z1 := m5 _ q1 (cod_lt q1)
      rcases m6 with ⟨-, z⟩ | ⟨d, d1, d2⟩
      · omega
      · rcases Int.lt_or_le l l' with z | z
        · exact absurd (N_SOL (L := l) d1 (by omega)) (b5 l m4.1 z _)
        · omega
    refine ⟨iI l', B, M, ?_, ?_, RL_q h (FR_XM hFX (FM_t (FM_123 g2) m2)) (fun _ _ _ => rfl)⟩
    · unfold g_X_least
      rw [X_canAsk_s hC hW, b01_if, hP, if_pos rfl, if_neg (show ¬ nI 1 < 0 by decide), if_pos (show nI 1 ≤ nI 1 from Int32.le_refl _), a1, ob_some, a3.2.2.1, H_apart_s (F := F) (by omega) h8 a3 (hi_r hW hy) (sub_sM _), ob_some, if_neg z1, b1]
    · unfold g_M_least
      rw [M_isYear_s (by rw [e117]; exact hW), b01_if, e117, hP, if_pos rfl, if_neg (show ¬ g_M_in (nI 1).toInt64 (lN 0) (lN 1) = 0 by decide), g1, ob_some, if_neg z1, M_sitters_s (by omega) (by rw [eG]; exact hW), ob_some, eG, m1, ob_some, m3, hl]
theorem op_least (hF : 30000 ≤ F) (h : RL D E) (a b : Int32) : ∃ r D1 D2, g_X_least F a b D = some (r, D1) ∧ g_M_least F a b D1 = some (r, D2) ∧ RL D2 E := by
  have hW := h.1
  have hC := h.2.2.1
  by_cases hb : b = nI 1
  · subst hb
    rcases yr_c (D 117) a with q | ⟨y, hy, rfl, hP, q⟩
    · refine ⟨-2, D, D, ?_, ?_, h⟩
      · unfold g_X_least
        rw [X_canAsk_s hC hW, b01_if, q, if_neg (by decide)]
      · unfold g_M_least
        rw [M_isYear_s hW, b01_if, q, if_neg (by decide)]
    · exact op_least1 hF h hy q
  · obtain ⟨D1, x1, x2⟩ := x_least0 (F := F) (by omega) hC hW a b hb
    have e117 : D1 117 = D 117 := x2 117 (by omega)
    obtain ⟨D2, m1, m2⟩ := m_least0 (D := D1) (F := F) (by omega) (by rw [e117]; exact hW) a b hb
    rw [e117] at m1
    exact ⟨_, D1, D2, x1, m1, RL_q h (FR_XM x2 m2) (fun _ _ _ => rfl)⟩
end CL2
