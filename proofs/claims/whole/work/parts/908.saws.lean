/-! ===== saws, saw, clash, shuts, least ===== -/
section SV
variable {D : mx_D} {E : mx_E} {w : W_} {F : Nat}
theorem offI_c (hW : WF w) {hs : Nat → Int} {S : Nat} (hS : sub S (nA w)) {m m' : Nat → Int} (h : ∀ p, p < 4 → m p = m' p) : offI w hs S m = offI w hs S m' := by
  refine apa_c (fun x hx => ?_)
  unfold hsm
  cases hs' : st w x
  · rw [if_neg (by decide), if_neg (by decide)]
  · have := (wf_sit hW (hS x hx) hs').2.1
    have h4 := wf_P4 hW
    rw [if_pos rfl, if_pos rfl, h (pw w x) (by omega)]
/-- a sawing of whole numbers is one of the reference's -/
theorem SOL_N (hW : WF w) {hs : Nat → Int} {S : Nat} (hS : sub S (nA w)) {L : Int} {m0 m : Nat → Int} (h0 : ∀ p, p < 4 → 0 ≤ m0 p) (h : SOL w hs S L m0 m) : bx (RM w) (fun p => (m p).toNat) ∧ offN w hs S (fun p => (m p).toNat) ≤ L ∧ ∀ p, p < 4 → (((m p).toNat : Nat) : Int) = m p := by
  have e : ∀ p, p < 4 → (((m p).toNat : Nat) : Int) = m p := fun p hp => by
    have := h0 p hp
    have := h.1 p hp
    omega
  refine ⟨fun p hp => ?_, ?_, e⟩
  · show (m p).toNat ≤ RM w p
    have := e p hp
    have := h.1 p hp
    omega
  · rw [offN_I, offI_c hW hS (m' := m) e]
    exact h.2
theorem N_SOL {hs : Nat → Int} {S : Nat} {L : Int} {d : Nat → Nat} (h : bx (RM w) d) (ho : offN w hs S d ≤ L) : SOL w hs S L (fun _ => 0) (fun p => (d p : Int)) :=
  ⟨fun p hp => ⟨Int.natCast_nonneg _, Int.ofNat_le.mpr (h p hp)⟩, ho⟩
theorem LEA_eq (hW : WF w) {hs : Nat → Int} {S : Nat} (hS : sub S (nA w)) {L : Int} {m : Nat → Int} (h : LEA w hs S L (fun _ => 0) m) {b : Nat → Nat} (hb : bx (RM w) b) (ho : offN w hs S b ≤ L) (hm : ∀ d, bx (RM w) d → offN w hs S d ≤ L → su b ≤ su d) : ∀ p, p < 4 → m p = b p := by
  obtain ⟨q1, q2, q3⟩ := SOL_N hW hS (fun _ _ => Int.le_refl _) h.1
  have h1 := h.2 _ (N_SOL hb ho)
  have h2 : b 0 + b 1 + b 2 + b 3 ≤ (m 0).toNat + (m 1).toNat + (m 2).toNat + (m 3).toNat := hm _ q1 q2
  have a0 : m 0 ≤ (b 0 : Int) := h1 0 (by decide)
  have a1 : m 1 ≤ (b 1 : Int) := h1 1 (by decide)
  have a2 : m 2 ≤ (b 2 : Int) := h1 2 (by decide)
  have a3 : m 3 ≤ (b 3 : Int) := h1 3 (by decide)
  have b0 := q3 0 (by decide)
  have b1 := q3 1 (by decide)
  have b2 := q3 2 (by decide)
  have b3 := q3 3 (by decide)
  intro p hp
  rcases (show p = 0 ∨ p = 1 ∨ p = 2 ∨ p = 3 by omega) with rfl | rfl | rfl | rfl <;> omega
theorem sM_st {w : W_} (x : Nat) (h : (sM w).testBit x = true) : st w x = true := by
  unfold sM at h
  rw [mk_tb, Bool.and_eq_true] at h
  exact h.2
theorem hi_9 (hW : WF w) {y : Nat} (hy : y ≤ 30) : ∀ x, x < nA w → -9000 < hi w y x ∧ hi w y x < 9000 := fun x hx => by
  have := hi_b hW hx hy
  omega
/-- what the class has after a year's sawing -/
def SX (w : W_) (D D' : mx_D) : Prop := (∀ c, c < 34 ∨ 42 < c → D' c = D c) ∧ ∀ p, p < 4 → D' 39 p = nI (RM w p)
theorem SX_FX {D' : mx_D} (h : SX w D D') : FX D D' := fun c hc => h.1 c (by omega)
/-- one year more -/
theorem X_saw_step (hF : 100 ≤ F) (hC : CC D w) (hW : WF w) {y n : Nat} (hy : y ≤ n) (hn : n ≤ 30) {m0 : Nat → Int} (h0 : ∀ p, p < 4 → D 38 p = iI (m0 p) ∧ D 39 p = nI (RM w p) ∧ 0 ≤ m0 p ∧ m0 p ≤ RM w p) (f : Nat) : ∃ b D', g_X_sawAsLongAsCan_13 F (f + 1) (nI n) (nI y) D = (if b = true then g_X_sawAsLongAsCan_13 F f (nI n) (nI (y + 1)) D' else some (iI ((y : Int) - 1), D')) ∧ SX w D D' ∧ HT D' (nA w) (hi w y) (pM w) (sM w) (ba w) ∧ if b = true then ∃ m, (∀ p, p < 4 → D' 38 p = iI (m p)) ∧ LEA w (hi w y) (sM w) (nV w) m0 m else ∀ m, ¬ SOL w (hi w y) (sM w) (nV w) m0 m := by
  have hv := wf_V30 hW
  obtain ⟨A, a1, a2, a3⟩ := H_take_s hF hC hW y
  obtain ⟨b, B, b1, b2, b3⟩ := S_settle_s (D := A) hF hW (hi_9 hW (show y ≤ 30 by omega)) a3 (sub_sM w) sM_st (L := (nV w : Int)) (by omega) (by omega) (m0 := m0) (fun p hp => by rw [a2 38 (by omega), a2 39 (by omega)]; exact h0 p hp)
  refine ⟨b, B, ?_, ⟨fun c hc => by rw [b2 c (by omega), a2 c (by omega)], fun p hp => by rw [b2 39 (by omega), a2 39 (by omega)]; exact (h0 p hp).2.1⟩, ?_, b3⟩
  · rw [s_X_sawAsLongAsCan_13]
    unfold b_X_sawAsLongAsCan_13
    rw [if_neg (nI_nlt hy (by omega)), a1, ob_some, a3.2.2.1, a2 19 (by omega), c_2 hC, wf_V hW, iI_nI (nV w), b1, ob_some]
    cases b
    · rw [if_pos zb0, if_neg (by decide), iI_nI, iI_nI 1, iI_sub]
      rfl
    · rw [if_neg zb1, if_pos rfl, nI_add]
  · have e : ∀ c, c < 38 → B c = A c := fun c hc => b2 c (by omega)
    unfold HT at a3 ⊢
    rw [e 35 (by omega), e 36 (by omega), e 34 (by omega)]
    exact a3
/-- one year alone -/
theorem X_saw1_s (hF : 100 ≤ F) (hC : CC D w) (hW : WF w) {y : Nat} (hy : y ≤ 30) : ∃ b D', g_X_sawAsLongAsCan F (nI y) (nI y) D = some (if b = true then nI y else iI ((y : Int) - 1), D') ∧ SX w D D' ∧ HT D' (nA w) (hi w y) (pM w) (sM w) (ba w) ∧ if b = true then ∃ m, (∀ p, p < 4 → D' 38 p = iI (m p)) ∧ LEA w (hi w y) (sM w) (nV w) (fun _ => 0) m else ∀ m, ¬ SOL w (hi w y) (sM w) (nV w) (fun _ => 0) m := by
  obtain ⟨B, b1, b2, b3⟩ := S_begin_s hF hC hW
  obtain ⟨f, rfl⟩ : ∃ g, F = g + 2 := ⟨F - 2, by omega⟩
  have hCB : CC B w := CC_of hC (fun c hc => b2 c (by omega) (by omega))
  obtain ⟨b, A, a1, a2, a3, a4⟩ := X_saw_step hF hCB hW (Nat.le_refl y) hy (m0 := fun _ => 0) (fun p hp => ⟨(b3 p hp).1, (b3 p hp).2, Int.le_refl _, Int.natCast_nonneg _⟩) (f + 1)
  refine ⟨b, A, ?_, ⟨fun c hc => by rw [a2.1 c hc, b2 c (by omega) (by omega)], a2.2⟩, a3, a4⟩
  unfold g_X_sawAsLongAsCan
  rw [b1, ob_some, a1]
  cases b
  · rfl
  · rw [if_pos rfl, if_pos rfl]
    rw [s_X_sawAsLongAsCan_13]
    unfold b_X_sawAsLongAsCan_13
    rw [if_pos (nI_lt (by omega) (by omega))]
theorem S_together_s (hF : 100 ≤ F) {m : Nat → Int} (h : ∀ p, p < 4 → D 38 p = iI (m p)) : g_Sawing_together F D = some (iI (m 0 + m 1 + m 2 + m 3)) := by
  have e : m 0 + m 1 + m 2 + m 3 = fo (fun p s => s + m p) 0 4 := by simp [fo]
  rw [e]
  unfold g_Sawing_together
  refine lu0 (fun f p => g_Sawing_together_4 F D f (iI (fo (fun p s => s + m p) 0 p)) (nI p)) (n := 4) _ (by omega) (fun f p hp => ?_) (fun f => ?_)
  · rw [s_Sawing_together_4]
    unfold b_Sawing_together_4
    rw [if_neg (nI_ge hp (by decide)), rk_in hp (by decide), nI_clamp (by omega), h p hp, iI_add, nI_add, fo_s]
  · rw [s_Sawing_together_4]
    unfold b_Sawing_together_4
    rw [if_pos (by decide)]
theorem ye_no {y : Nat} (hy : y ≤ 30) : ¬ nI y ≤ iI ((y : Int) - 1) := by
  rw [iI_nI, iI_le (by omega) (by omega) (by omega) (by omega)]
  omega
/-- the cond. of a question on a year: no year, no church -/
theorem yr_c (w : W_) (a : Int32) : (decide (0 < nP w) && vx a 31) = false ∨ ∃ y, y ≤ 30 ∧ a = nI y ∧ 0 < nP w ∧ (decide (0 < nP w) && vx a 31) = true := by
  cases hq : decide (0 < nP w) && vx a 31
  · exact Or.inl rfl
  · simp only [Bool.and_eq_true, decide_eq_true_eq] at hq
    obtain ⟨y, hy, e⟩ := vx_of (by decide) hq.2
    exact Or.inr ⟨y, by omega, e, hq.1, rfl⟩
theorem op_saws (hF : 20000 ≤ F) (h : RL D E) (a : Int32) : ∃ r D1 D2, g_X_saws F a D = some (r, D1) ∧ g_M_saws F a D1 = some (r, D2) ∧ RL D2 E := by
  have hW := h.1
  have hC := h.2.2.1
  unfold g_X_saws
  rw [X_canAsk_s hC hW, b01_if]
  rcases yr_c (D 117) a with q | ⟨y, hy, rfl, hP, q⟩
  · rw [q, if_neg (by decide)]
    refine ⟨_, D, D, rfl, ?_, h⟩
    unfold g_M_saws
    rw [M_isYear_s hW, b01_if, q, if_neg (by decide)]
  · rw [q, if_pos rfl]
    obtain ⟨b, A, a1, a2, a3, a4⟩ := X_saw1_s (F := F) (by omega) hC hW hy
    have hFX := SX_FX a2
    have e117 : A 117 = D 117 := hFX 117 (by omega)
    obtain ⟨M, m1, m2, ⟨-, m3, -, -⟩⟩ := M_sawAll_s (D := A) hF (by rw [e117]; exact hW) hy (S := sM (D 117)) (by rw [e117]; exact sub_sM _)
    have eM : g_M_saws F (nI y) A = some (M 116 19, M) := by
      unfold g_M_saws
      rw [M_isYear_s (by rw [e117]; exact hW), b01_if, e117, q, if_pos rfl, M_sitters_s (by omega) (by rw [e117]; exact hW), ob_some, e117, m1, ob_some]
    rw [e117] at m3
    rw [a1, ob_some]
    cases b
    · rw [if_neg (show ¬ false = true by decide)] at a4 ⊢
      dsimp only
      rw [if_neg (ye_no hy)]
      refine ⟨_, A, M, rfl, ?_, RL_q h (FR_XM hFX m2) (fun _ _ _ => rfl)⟩
      rcases m3 with ⟨z, -⟩ | ⟨d, z1, z2, -⟩
      · rw [eM, z]
      · exact absurd (N_SOL z1 z2) (a4 _)
    · rw [if_pos (show true = true from rfl)] at a4 ⊢
      dsimp only
      obtain ⟨m, n1, n2⟩ := a4
      rw [if_pos (Int32.le_refl _), S_together_s (F := F) (by omega) n1, ob_some]
      refine ⟨_, A, M, rfl, ?_, RL_q h (FR_XM hFX m2) (fun _ _ _ => rfl)⟩
      rcases m3 with ⟨-, z⟩ | ⟨d, z1, z2, z3, z4, z5⟩
      · obtain ⟨p1, p2, -⟩ := SOL_N hW (sub_sM _) (fun _ _ => Int.le_refl _) n2.1
        exact absurd p2 (z _ p1 (cod_lt p1))
      · have e := LEA_eq hW (sub_sM _) n2 z1 z2 (fun d' q1 q2 => z5 d' q1 (cod_lt q1) q2)
        rw [eM, z3, e 0 (by decide), e 1 (by decide), e 2 (by decide), e 3 (by decide), iI_nI]
        unfold su
        congr 3
theorem op_saw (hF : 20000 ≤ F) (h : RL D E) (a p : Int32) : ∃ r D1 D2, g_X_saw F a p D = some (r, D1) ∧ g_M_saw F a p D1 = some (r, D2) ∧ RL D2 E := by
  have hW := h.1
  have hC := h.2.2.1
  have h4 := wf_P4 hW
  unfold g_X_saw
  rw [X_canAsk_s hC hW, b01_if]
  rcases yr_c (D 117) a with q | ⟨y, hy, rfl, hP, q⟩
  · rw [q, if_neg (by decide)]
    refine ⟨_, D, D, rfl, ?_, h⟩
    unfold g_M_saw
    rw [M_isYear_s hW, b01_if, q, if_neg (by decide)]
  · rw [q, if_pos rfl, C_hasPew_s hC hW, b01_if]
    rcases vx_c p (nP (D 117)) (by omega) with hp | ⟨j, hj, rfl⟩
    · rw [hp, if_neg (by decide)]
      refine ⟨_, D, D, rfl, ?_, h⟩
      unfold g_M_saw
      rw [M_isYear_s hW, b01_if, q, if_pos rfl, M_isPew_s hW, vl_i, hp, b01_if, if_neg (by decide)]
    · have hvj : vx (nI j) (nP (D 117)) = true := by rw [vx_nI (by omega)]; exact decide_eq_true hj
      rw [hvj, if_pos rfl]
      obtain ⟨b, A, a1, a2, a3, a4⟩ := X_saw1_s (F := F) (by omega) hC hW hy
      have hFX := SX_FX a2
      have e117 : A 117 = D 117 := hFX 117 (by omega)
      obtain ⟨M, m1, m2, ⟨-, m3, -, -⟩⟩ := M_sawAll_s (D := A) hF (by rw [e117]; exact hW) hy (S := sM (D 117)) (by rw [e117]; exact sub_sM _)
      have eM : g_M_saw F (nI y) (nI j) A = if M 116 19 = -1 then some (-1, M) else some (M 126 j, M) := by
        unfold g_M_saw
        rw [M_isYear_s (by rw [e117]; exact hW), b01_if, e117, q, if_pos rfl, M_isPew_s (by rw [e117]; exact hW), vl_i, e117, hvj, b01_if, if_pos rfl, M_sitters_s (by omega) (by rw [e117]; exact hW), ob_some, e117, m1, ob_some, rk_in (show j < 4 by omega) (by decide), nI_clamp (by omega)]
      rw [e117] at m3
      rw [a1, ob_some]
      cases b
      · rw [if_neg (show ¬ false = true by decide)] at a4 ⊢
        dsimp only
        rw [if_neg (ye_no hy)]
        refine ⟨_, A, M, rfl, ?_, RL_q h (FR_XM hFX m2) (fun _ _ _ => rfl)⟩
        rcases m3 with ⟨z, -⟩ | ⟨d, z1, z2, -⟩
        · rw [eM, if_pos z]
        · exact absurd (N_SOL z1 z2) (a4 _)
      · rw [if_pos (show true = true from rfl)] at a4 ⊢
        dsimp only
        obtain ⟨m, n1, n2⟩ := a4
        rw [if_pos (Int32.le_refl _), rk_in (show j < 4 by omega) (by decide), nI_clamp (by omega), n1 j (by omega)]
        refine ⟨_, A, M, rfl, ?_, RL_q h (FR_XM hFX m2) (fun _ _ _ => rfl)⟩
        rcases m3 with ⟨-, z⟩ | ⟨d, z1, z2, z3, z4, z5⟩
        · obtain ⟨p1, p2, -⟩ := SOL_N hW (sub_sM _) (fun _ _ => Int.le_refl _) n2.1
          exact absurd p2 (z _ p1 (cod_lt p1))
        · have e := LEA_eq hW (sub_sM _) n2 z1 z2 (fun d' q1 q2 => z5 d' q1 (cod_lt q1) q2)
          have hs := su_36 hW z1
          rw [eM, if_neg (by rw [z3]; exact nI_m1 (by omega)), z4 j (by omega), e j (by omega), iI_nI]
/-- nobody can be level by sawing -/
def CLS (w : W_) (y S : Nat) : Prop := ∀ m, ¬ SOL w (hi w y) S (nV w) (fun _ => 0) m
/-- the least of such sets, the fewest first -/
def BST (w : W_) (y b c : Nat) : Prop := CLS w y b ∧ nand b (sM w) = 0 ∧ ∀ s, s < c → nand s (sM w) = 0 → CLS w y s → bc b ≤ bc s ∧ (bc s = bc b → b ≤ s)
theorem nand_sub {a b : Nat} (h : nand a b = 0) (x : Nat) (hx : a.testBit x = true) : b.testBit x = true := by
  have := nand_tb a b x
  rw [h, hx] at this
  cases hb : b.testBit x
  · rw [hb] at this
    simp at this
  · rfl
theorem nand_le {a b : Nat} (h : nand a b = 0) : a ≤ b := by
  have e : a &&& b = a := by
    apply Nat.eq_of_testBit_eq
    intro i
    rw [Nat.testBit_and]
    cases ha : a.testBit i
    · rfl
    · rw [nand_sub h i ha]
      rfl
  rw [← e]
  exact Nat.and_le_right
theorem nand_self (a : Nat) : nand a a = 0 := by
  apply Nat.eq_of_testBit_eq
  intro i
  rw [nand_tb]
  cases a.testBit i <;> simp
theorem sM_lt8 (hW : WF w) : sM w < 256 := sub_256 (sub_sM w) (wf_A8 hW)
theorem CLS_0 (hW : WF w) {y : Nat} : ¬ CLS w y 0 := fun h => by
  refine h (fun _ => 0) ⟨fun p hp => ⟨Int.le_refl _, Int.natCast_nonneg _⟩, ?_⟩
  have e : offI w (hi w y) 0 (fun _ => 0) = 0 := by
    unfold offI apa
    have z : ∀ hs, spr hs 0 = 0 := fun hs => by unfold spr; rw [if_pos rfl]
    split
    · exact z _
    · simp [fo, z]
  rw [e]
  exact Int.natCast_nonneg _
theorem bc_le8 {s : Nat} (h : s < 256) : bc s ≤ 8 := bc_8 s h
/-- one year alone, the heights taken first: clashingIn's own first steps -/
theorem X_one_s (hF : 100 ≤ F) (hC : CC D w) (hW : WF w) {y : Nat} (hy : y ≤ 30) : ∃ b D', (∃ T B, g_Heights_take F (nI y) D = some T ∧ g_Sawing_begin F T = some B ∧ g_Sawing_settle F (B 34 2) (B 19 2) B = some (b01 b, D')) ∧ SX w D D' ∧ HT D' (nA w) (hi w y) (pM w) (sM w) (ba w) ∧ if b = true then ∃ m, (∀ p, p < 4 → D' 38 p = iI (m p)) ∧ LEA w (hi w y) (sM w) (nV w) (fun _ => 0) m else ∀ m, ¬ SOL w (hi w y) (sM w) (nV w) (fun _ => 0) m := by
  have hv := wf_V30 hW
  obtain ⟨T, t1, t2, t3⟩ := H_take_s hF hC hW y
  have hCT : CC T w := CC_of hC (fun c hc => t2 c (by omega))
  obtain ⟨B, b1, b2, b3⟩ := S_begin_s hF hCT hW
  have hTB : HT B (nA w) (hi w y) (pM w) (sM w) (ba w) := by
    unfold HT at t3 ⊢
    rw [b2 35 (by decide) (by decide), b2 36 (by decide) (by decide), b2 34 (by decide) (by decide)]
    exact t3
  obtain ⟨b, C, c1, c2, c3⟩ := S_settle_s (D := B) (F := F) hF hW (hi_9 hW hy) hTB (sub_sM w) sM_st (L := (nV w : Int)) (by omega) (by omega) (m0 := fun _ => 0) (fun p hp => ⟨(b3 p hp).1, (b3 p hp).2, Int.le_refl _, Int.natCast_nonneg _⟩)
  refine ⟨b, C, ⟨T, B, t1, b1, ?_⟩, ⟨fun c hc => by rw [c2 c (by omega), b2 c (by omega) (by omega), t2 c (by omega)], fun p hp => by rw [c2 39 (by omega)]; exact (b3 p hp).2⟩, ?_, c3⟩
  · rw [hTB.2.2.1, b2 19 (by decide) (by decide), c_2 hCT, wf_V hW, iI_nI (nV w), c1]
  · unfold HT at hTB ⊢
    rw [c2 35 (by omega), c2 36 (by omega), c2 34 (by omega)]
    exact hTB
/-- the class's search -/
theorem X_clash_s (hF : 1000 ≤ F) (hC : CC D w) (hW : WF w) {y : Nat} (hy : y ≤ 30) : ∃ r D', g_X_clashingIn F (nI y) D = some (nI r, D') ∧ FX D D' ∧ ((r = 0 ∧ ¬ CLS w y (sM w)) ∨ (0 < r ∧ CLS w y (sM w) ∧ BST w y r (sM w + 1))) := by
  have hS := sM_lt8 hW
  have hv := wf_V30 hW
  unfold g_X_clashingIn
  obtain ⟨b, A, ⟨T, B0, t1, t2, t3⟩, a2, a3, a4⟩ := X_one_s (F := F) (by omega) hC hW hy
  rw [t1, ob_some, t2, ob_some, t3, ob_some]
  dsimp only
  cases b
  · rw [if_neg (show ¬ false = true by decide)] at a4
    rw [if_pos zb0]
    have hcl : CLS w y (sM w) := a4
    have hpos : 0 < sM w := Nat.pos_of_ne_zero (fun e => by rw [e] at hcl; exact CLS_0 hW hcl)
    obtain ⟨r, r1, r2, r3⟩ := lp (fun k (s : (Nat × Nat) × mx_D) => (SX w A s.2 ∧ HT s.2 (nA w) (hi w y) (pM w) (sM w) (ba w)) ∧ s.1.1 ≤ 255 ∧ ((s.1.1 = 0 ∧ s.1.2 = 9 ∧ ∀ z, z < k + 1 → nand z (sM w) = 0 → ¬ CLS w y z) ∨ (0 < s.1.1 ∧ s.1.1 < k + 1 ∧ s.1.2 = bc s.1.1 ∧ BST w y s.1.1 (k + 1)))) (fun (r : Int32 × mx_D) => FX D r.2 ∧ ∃ b, r.1 = nI b ∧ 0 < b ∧ BST w y b (sM w + 1)) (fun f k s => g_X_clashingIn_61 F f (nI s.1.1) (nI s.1.2) (nI (k + 1)) s.2) (sM w) (fun f k s hk hI => by
      obtain ⟨⟨i1, i2⟩, i3, i4⟩ := hI
      obtain ⟨⟨bb, fw⟩, G⟩ := s
      dsimp only at i1 i2 i3 i4
      have hfw : fw ≤ 9 := by
        rcases i4 with ⟨-, z, -⟩ | ⟨-, -, z, -⟩
        · omega
        · have := bc_8 bb (by omega)
          omega
      have hk256 : k + 1 < 256 := by omega
      have hbk := bc_8 (k + 1) hk256
      have eA : CC A w := CC_of hC (fun c hc => a2.1 c (by omega))
      have hCG : CC G w := CC_of eA (fun c hc => i1.1 c (by omega))
      show (∃ r, g_X_clashingIn_61 F (f + 1) (nI bb) (nI fw) (nI (k + 1)) G = some r ∧ _) ∨ ∃ s' : (Nat × Nat) × mx_D, _ ∧ g_X_clashingIn_61 F (f + 1) (nI bb) (nI fw) (nI (k + 1)) G = g_X_clashingIn_61 F f (nI s'.1.1) (nI s'.1.2) (nI (k + 1 + 1)) s'.2
      rw [s_X_clashingIn_61]
      unfold b_X_clashingIn_61
      rw [i2.2.2.1, if_neg (nI_nlt (by omega) (by omega)), nb_not, bitC (k + 1) hk256, nI_add]
      -- the set is passed over
      have skip : (nand (k + 1) (sM w) = 0 → CLS w y (k + 1) → 0 < bb ∧ bc bb ≤ bc (k + 1)) → ∃ s' : (Nat × Nat) × mx_D, ((SX w A s'.2 ∧ HT s'.2 (nA w) (hi w y) (pM w) (sM w) (ba w)) ∧ s'.1.1 ≤ 255 ∧ ((s'.1.1 = 0 ∧ s'.1.2 = 9 ∧ ∀ z, z < k + 1 + 1 → nand z (sM w) = 0 → ¬ CLS w y z) ∨ (0 < s'.1.1 ∧ s'.1.1 < k + 1 + 1 ∧ s'.1.2 = bc s'.1.1 ∧ BST w y s'.1.1 (k + 1 + 1)))) ∧ g_X_clashingIn_61 F f (nI bb) (nI fw) (nI (k + 1 + 1)) G = g_X_clashingIn_61 F f (nI s'.1.1) (nI s'.1.2) (nI (k + 1 + 1)) s'.2 := fun hh => by
        refine ⟨((bb, fw), G), ⟨⟨i1, i2⟩, i3, ?_⟩, rfl⟩
        rcases i4 with ⟨j1, j2, j3⟩ | ⟨j1, j2, j3, j4, j5, j6⟩
        · refine Or.inl ⟨j1, j2, fun z hz hn hc => ?_⟩
          by_cases e : z = k + 1
          · subst e
            have := (hh hn hc).1
            omega
          · exact j3 z (by omega) hn hc
        · refine Or.inr ⟨j1, by dsimp only at j2 ⊢; omega, j3, j4, j5, fun z hz hn hc => ?_⟩
          by_cases e : z = k + 1
          · subst e
            have := (hh hn hc).2
            exact ⟨this, fun _ => by dsimp only at j2 ⊢; omega⟩
          · exact j6 z (by omega) hn hc
      by_cases cn : nand (k + 1) (sM w) = 0
      · rw [if_pos (by rw [cn]; rfl)]
        by_cases cf : fw ≤ bc (k + 1)
        · rw [if_pos (nI_le cf (by omega))]
          refine Or.inr (skip (fun _ _ => ?_))
          rcases i4 with ⟨-, z, -⟩ | ⟨z1, -, z, -⟩
          · omega
          · exact ⟨z1, by omega⟩
        · rw [if_neg (nI_ge (by omega) (by omega))]
          obtain ⟨B, b1, b2, b3⟩ := S_begin_s (F := F) (by omega) hCG hW
          have hTB : HT B (nA w) (hi w y) (pM w) (sM w) (ba w) := by
            unfold HT at i2 ⊢
            rw [b2 35 (by decide) (by decide), b2 36 (by decide) (by decide), b2 34 (by decide) (by decide)]
            exact i2
          have hsubk : sub (k + 1) (nA w) := fun x hx => sub_sM w x (nand_sub cn x hx)
          obtain ⟨b, C, c1, c2, c3⟩ := S_settle_s (D := B) (F := F) (by omega) hW (hi_9 hW hy) hTB hsubk (fun x hx => sM_st x (nand_sub cn x hx)) (L := (nV w : Int)) (by omega) (by omega) (m0 := fun _ => 0) (fun p hp => ⟨(b3 p hp).1, (b3 p hp).2, Int.le_refl _, Int.natCast_nonneg _⟩)
          have eB2 : B 19 2 = nI (nV w) := by rw [b2 19 (by decide) (by decide), c_2 hCG, wf_V hW]
          rw [b1, ob_some, eB2, iI_nI (nV w), c1, ob_some]
          have SC : SX w A C := ⟨fun c hc => by rw [c2 c (by omega), b2 c (by omega) (by omega), i1.1 c hc], fun p hp => by rw [c2 39 (by omega)]; exact (b3 p hp).2⟩
          have HC : HT C (nA w) (hi w y) (pM w) (sM w) (ba w) := by
            unfold HT at hTB ⊢
            rw [c2 35 (by omega), c2 36 (by omega), c2 34 (by omega)]
            exact hTB
          cases b
          · rw [if_neg (by decide)] at c3
            dsimp only
            rw [if_pos zb0]
            refine Or.inr ⟨((k + 1, bc (k + 1)), C), ⟨⟨SC, HC⟩, by dsimp only; omega, Or.inr ⟨Nat.succ_pos k, Nat.lt_succ_self _, rfl, c3, cn, fun z hz hn hc => ?_⟩⟩, rfl⟩
            dsimp only
            by_cases e : z = k + 1
            · rw [e]
              exact ⟨Nat.le_refl _, fun _ => Nat.le_refl _⟩
            · rcases i4 with ⟨j1, j2, j3⟩ | ⟨j1, j2, j3, j4, j5, j6⟩
              · exact absurd hc (j3 z (by omega) hn)
              · have := j6 z (by omega) hn hc
                exact ⟨by omega, fun e => by omega⟩
          · rw [if_pos rfl] at c3
            obtain ⟨m, n1, n2⟩ := c3
            dsimp only
            rw [if_neg zb1]
            refine Or.inr ⟨((bb, fw), C), ⟨⟨SC, HC⟩, i3, ?_⟩, rfl⟩
            rcases i4 with ⟨j1, j2, j3⟩ | ⟨j1, j2, j3, j4, j5, j6⟩
            · refine Or.inl ⟨j1, j2, fun z hz hn hc => ?_⟩
              by_cases e : z = k + 1
              · rw [e] at hc
                exact hc m n2.1
              · exact j3 z (by omega) hn hc
            · refine Or.inr ⟨j1, by dsimp only at j2 ⊢; omega, j3, j4, j5, fun z hz hn hc => ?_⟩
              by_cases e : z = k + 1
              · rw [e] at hc
                exact absurd n2.1 (hc m)
              · exact j6 z (by omega) hn hc
      · rw [if_neg (fun e => cn ((nI_z _ (by have := nand_tb (k + 1) (sM w); unfold nand; have h1 : (k + 1) ^^^ ((k + 1) &&& sM w) < 2 ^ 8 := Nat.xor_lt_two_pow (by omega) (Nat.lt_of_le_of_lt Nat.and_le_left (by omega)); omega)).mp e))]
        exact Or.inr (skip (fun e => absurd e cn))) (fun f s hI => by
      obtain ⟨⟨i1, i2⟩, i3, i4⟩ := hI
      show ∃ r, g_X_clashingIn_61 F (f + 1) (nI s.1.1) (nI s.1.2) (nI (sM w + 1)) s.2 = some r ∧ _
      rw [s_X_clashingIn_61]
      unfold b_X_clashingIn_61
      rw [i2.2.2.1, if_pos (nI_lt (by omega) (by omega))]
      refine ⟨_, rfl, FX_t (SX_FX a2) (SX_FX i1), s.1.1, rfl, ?_⟩
      rcases i4 with ⟨j1, j2, j3⟩ | ⟨j1, j2, j3, j4⟩
      · exact absurd hcl (j3 (sM w) (Nat.lt_succ_self _) (nand_self _))
      · exact ⟨j1, j4⟩) (sM w) F 0 ((0, 9), A) (by omega) (by omega) ⟨⟨⟨fun _ _ => rfl, a2.2⟩, a3⟩, Nat.zero_le _, Or.inl ⟨rfl, rfl, fun z hz hn hc => by
        have : z = 0 := by omega
        rw [this] at hc
        exact CLS_0 hW hc⟩⟩
    obtain ⟨b, r4, r5, r6⟩ := r3
    refine ⟨b, r.2, ?_, r2, Or.inr ⟨r5, hcl, r6⟩⟩
    rw [← r4]
    exact r1
  · rw [if_pos (show true = true from rfl)] at a4
    rw [if_neg zb1]
    obtain ⟨m, n1, n2⟩ := a4
    exact ⟨0, A, rfl, SX_FX a2, Or.inl ⟨rfl, fun hc => hc m n2.1⟩⟩
end SV
