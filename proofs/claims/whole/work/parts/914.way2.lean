/-! ===== ways: the class's count ===== -/
section WZ
variable {D : mx_D} {E : mx_E} {w : W_} {F : Nat}
/-- of one pew, in the class -/
def mxw (l t : Nat → Int) (R : Nat → Nat) (a b : Int) (p : Nat) : Int := max 0 (min (R p : Int) (l p - a) - max 0 (t p - b) + 1)
def wb (T : Nat → Bool) (l t : Nat → Int) (R : Nat → Nat) (a b : Int) (n : Nat) : Int := fo (fun p s => if T p = true then s * mxw l t R a b p else s) 1 n
def fr (T : Nat → Bool) (R : Nat → Nat) (ba : Bool) (n : Nat) : Int := fo (fun p s => if (ba && T p) = true then s else s * ((R p : Int) + 1)) 1 n
def af (T : Nat → Bool) (ba : Bool) (n : Nat) : Bool := fo (fun p s => if (ba && T p) = true then false else s) true n
theorem fr_wb (T : Nat → Bool) (l t : Nat → Int) (R : Nat → Nat) (a b : Int) : fr T R true 4 * wb T l t R a b 4 = om T l t R a b 0 * (om T l t R a b 1 * (om T l t R a b 2 * om T l t R a b 3)) := by
  have e1 : ∀ n, fr T R true (n + 1) = fr T R true n * (if T n = true then 1 else (R n : Int) + 1) := fun n => by
    show (if (true && T n) = true then fr T R true n else fr T R true n * ((R n : Int) + 1)) = _
    cases T n
    · rfl
    · rw [if_pos (show (true && true) = true from rfl), if_pos (show true = true from rfl), Int.mul_one]
  have e2 : ∀ n, wb T l t R a b (n + 1) = wb T l t R a b n * (if T n = true then mxw l t R a b n else 1) := fun n => by
    show (if T n = true then wb T l t R a b n * mxw l t R a b n else wb T l t R a b n) = _
    cases T n
    · rw [if_neg (by decide), if_neg (by decide), Int.mul_one]
    · rfl
  have e3 : ∀ p, om T l t R a b p = (if T p = true then 1 else (R p : Int) + 1) * (if T p = true then mxw l t R a b p else 1) := fun p => by
    unfold om mxw
    cases T p
    · rw [if_neg (by decide), if_neg (by decide), if_neg (by decide), Int.mul_one]
    · rw [if_pos rfl, if_pos rfl, if_pos rfl, Int.one_mul]
  rw [e1, e1, e1, e1, e2, e2, e2, e2, e3, e3, e3, e3]
  rw [show fr T R true 0 = 1 from rfl, show wb T l t R a b 0 = 1 from rfl, Int.one_mul, Int.one_mul]
  ac_rfl
theorem S_ways_s (hF : 100 ≤ F) (hW : WF w) {T : Nat → Bool} {l t : Nat → Int} (h : ∀ p, p < 4 → D 40 p = b01 (T p) ∧ D 39 p = nI (RM w p) ∧ (T p = true → D 41 p = iI (l p) ∧ D 42 p = iI (t p))) (hb : ∀ p, p < 4 → T p = true → (-10000 < l p ∧ l p < 10000) ∧ -10000 < t p ∧ t p < 10000) {a b : Int} (ha : -20000 < a ∧ a < 20000) (hb2 : -20000 < b ∧ b < 20000) : g_Sawing_waysBetween F D (iI a) (iI b) = some (iI (wb T l t (RM w) a b 4)) := by
  unfold g_Sawing_waysBetween
  refine lu0 (fun f p => g_Sawing_waysBetween_5 F D f (iI a) (iI b) (iI (wb T l t (RM w) a b p)) (nI p)) (n := 4) _ (by omega) (fun f p hp => ?_) (fun f => ?_)
  · rw [s_Sawing_waysBetween_5]
    unfold b_Sawing_waysBetween_5
    obtain ⟨h1, h2, h3⟩ := h p hp
    have hR := RM_9 hW hp
    have e : wb T l t (RM w) a b (p + 1) = if T p = true then wb T l t (RM w) a b p * mxw l t (RM w) a b p else wb T l t (RM w) a b p := rfl
    rw [if_neg (nI_ge hp (by decide)), nI_clamp (show p < 2 ^ 31 by omega), h1, e]
    simp (disch := omega) only [rk_in, nI_add]
    cases hT : T p
    · rw [if_pos zb0, if_neg (by decide)]
    · obtain ⟨h4, h5⟩ := h3 hT
      have := hb p hp hT
      rw [if_neg zb1, if_pos rfl, h2, h4, h5, iI_nI (RM w p), iI_nI 0, iI_nI 1, iI_sub, iI_sub, imn_iI (by omega) (by omega) (by omega) (by omega), imx_iI (by omega) (by omega) (by omega) (by omega), iI_sub, iI_add, imx_iI (by omega) (by omega) (by omega) (by omega), iI_mul]
      rfl
  · rw [s_Sawing_waysBetween_5]
    unfold b_Sawing_waysBetween_5
    rw [if_pos (by decide)]
theorem S4_k (R : Nat → Nat) (k : Int) : S4 R (fun _ _ _ _ => k) = fr (fun _ => false) R true 4 * k := by
  unfold S4
  simp only [sg_k]
  have e : fr (fun _ => false) R true 4 = 1 * ((R 0 : Int) + 1) * ((R 1 : Int) + 1) * ((R 2 : Int) + 1) * ((R 3 : Int) + 1) := rfl
  rw [e, Int.one_mul, Int.natCast_succ, Int.natCast_succ, Int.natCast_succ, Int.natCast_succ]
  ac_rfl
theorem op_ways (hF : 20000 ≤ F) (h : RL D E) (a : Int32) : ∃ r D1 D2, g_X_ways F a D = some (r, D1) ∧ g_M_ways F a D1 = some (r, D2) ∧ RL D2 E := by
  have hW := h.1
  have hC := h.2.2.1
  unfold g_X_ways
  rw [X_canAsk_s hC hW, b01_if]
  rcases yr_c (D 117) a with q | ⟨y, hy, rfl, hP, q⟩
  · rw [q, if_neg (by decide)]
    refine ⟨_, D, D, rfl, ?_, h⟩
    unfold g_M_ways
    rw [M_isYear_s hW, b01_if, q, if_neg (by decide)]
  · rw [q, if_pos rfl]
    have h8 := wf_A8 hW
    have hv := wf_V30 hW
    have hb := hi_9 hW hy
    obtain ⟨A, a1, a2, a3⟩ := H_take_s (F := F) (by omega) hC hW y
    have cA : CC A (D 117) := CC_of hC (fun c hc => a2 c (by omega))
    obtain ⟨B, b1, b2, b3⟩ := S_begin_s (F := F) (by omega) cA hW
    have cB : CC B (D 117) := CC_of cA (fun c hc => b2 c (by omega) (by omega))
    have tB : HT B (nA (D 117)) (hi (D 117) y) (pM (D 117)) (sM (D 117)) (ba (D 117)) := by
      unfold HT at a3 ⊢
      rw [b2 35 (by decide) (by decide), b2 36 (by decide) (by decide), b2 34 (by decide) (by decide)]
      exact a3
    obtain ⟨C, c1, c2, c3⟩ := S_measure_s (F := F) (by omega) hW hb tB (sub_sM (D 117))
    have cCc : CC C (D 117) := CC_of cB (fun c hc => c2 c (by omega) (by omega) (by omega))
    have tC : HT C (nA (D 117)) (hi (D 117) y) (pM (D 117)) (sM (D 117)) (ba (D 117)) := by
      unfold HT at tB ⊢
      rw [c2 35 (by decide) (by decide) (by decide), c2 36 (by decide) (by decide) (by decide), c2 34 (by decide) (by decide) (by decide)]
      exact tB
    have h39 : ∀ p, p < 4 → C 39 p = nI (RM (D 117) p) := fun p hp => by rw [c2 39 (by decide) (by decide) (by decide)]; exact (b3 p hp).2
    have h38 : ∀ p, p < 4 → C 38 p = iI 0 := fun p hp => by rw [c2 38 (by decide) (by decide) (by decide)]; exact (b3 p hp).1
    have hFX : FX D C := fun c hc => by rw [c2 c (by omega) (by omega) (by omega), b2 c (by omega) (by omega), a2 c (by omega)]
    have e117 : C 117 = D 117 := hFX 117 (by omega)
    obtain ⟨M, m1, m2, ⟨-, -, -, m3⟩⟩ := M_sawAll_s (D := C) hF (by rw [e117]; exact hW) hy (S := sM (D 117)) (by rw [e117]; exact sub_sM _)
    rw [e117] at m3
    have eM : g_M_ways F (nI y) C = some (M 116 20, M) := by
      unfold g_M_ways
      rw [M_isYear_s (by rw [e117]; exact hW), b01_if, e117, q, if_pos rfl, M_sitters_s (by omega) (by rw [e117]; exact hW), ob_some, e117, m1, ob_some]
    have hRL := RL_q h (FR_XM hFX m2) (E' := E) (fun _ _ _ => rfl)
    have bb := apa_b (pm := pM (D 117)) (b := ba (D 117)) h8 (sub_sM (D 117)) (hi_r hW hy)
    generalize hw : D 117 = w at hW hC h8 hv hb a3 b3 tB cB cA c1 c3 cCc tC h39 m3 bb
    have tb : ∀ p, p < 4 → tk w (sM w) p = true → (-9000 < tt w (hi w y) (sM w) p ∧ tt w (hi w y) (sM w) p < 9000) ∧ -9000 < lw w (hi w y) (sM w) p ∧ lw w (hi w y) (sM w) p < 9000 := fun p hp ht => by
      obtain ⟨⟨x, x1, x2, x3, x4⟩, ⟨z, y1, y2, y3, y4⟩⟩ := tk_at hW hb (sub_sM w) hp ht
      rw [← x4, ← y4]
      exact ⟨hb x (sub_sM w x x1), hb z (sub_sM w z y1)⟩
    -- the loop over the pews
    have loop : ∀ k p f, p + k = 4 → k < f → g_Sawing_countWays_17 F f (iI (fr (tk w (sM w)) (RM w) (ba w) p)) (b01 (af (tk w (sM w)) (ba w) p)) (nI p) C = b_Sawing_countWays_64 F (iI (fr (tk w (sM w)) (RM w) (ba w) 4)) (b01 (af (tk w (sM w)) (ba w) 4)) C := by
      intro k
      induction k with
      | zero =>
        intro p f hp hf
        obtain ⟨f, rfl⟩ : ∃ g, f = g + 1 := ⟨f - 1, by omega⟩
        obtain rfl : p = 4 := by omega
        rw [s_Sawing_countWays_17]
        unfold b_Sawing_countWays_17
        rw [if_pos (by decide)]
      | succ k ih =>
        intro p f hp hf
        obtain ⟨f, rfl⟩ : ∃ g, f = g + 1 := ⟨f - 1, by omega⟩
        have hp4 : p < 4 := by omega
        have ef : fr (tk w (sM w)) (RM w) (ba w) (p + 1) = if (ba w && tk w (sM w) p) = true then fr (tk w (sM w)) (RM w) (ba w) p else fr (tk w (sM w)) (RM w) (ba w) p * ((RM w p : Int) + 1) := rfl
        have ea : af (tk w (sM w)) (ba w) (p + 1) = if (ba w && tk w (sM w) p) = true then false else af (tk w (sM w)) (ba w) p := rfl
        rw [← ih (p + 1) f (by omega) (by omega), ef, ea]
        rw [s_Sawing_countWays_17]
        unfold b_Sawing_countWays_17
        unfold b_Sawing_countWays_46
        rw [if_neg (nI_ge hp4 (by decide)), nI_clamp (show p < 2 ^ 31 by omega), c_3 cCc, ba_b hW, (c3 p hp4).1, h39 p hp4]
        simp (disch := omega) only [rk_in, nI_add]
        have em : iI (fr (tk w (sM w)) (RM w) (ba w) p) * nI (RM w p + 1) = iI (fr (tk w (sM w)) (RM w) (ba w) p * ((RM w p : Int) + 1)) := by
          rw [iI_nI, iI_mul, Int.natCast_succ]
        rw [em]
        cases hba : ba w
        · rw [if_pos zb0, if_neg (by simp), if_neg (by simp)]
        · rw [if_neg zb1]
          cases hT : tk w (sM w) p
          · rw [if_pos zb0, if_neg (by simp), if_neg (by simp)]
          · rw [if_neg zb1, if_pos (by simp), if_pos (by simp)]
            rfl
    -- nobody counts: all pews free
    have free : af (tk w (sM w)) (ba w) 4 = true → fr (tk w (sM w)) (RM w) (ba w) 4 = fr (fun _ => false) (RM w) true 4 ∧ ∀ d, bx (RM w) d → offN w (hi w y) (sM w) d = apa (hi w y) (pM w) (ba w) (sM w) := fun e => by
      have none : ∀ p, p < 4 → (ba w && tk w (sM w) p) = false := by
        have s : ∀ n, af (tk w (sM w)) (ba w) (n + 1) = true → (ba w && tk w (sM w) n) = false ∧ af (tk w (sM w)) (ba w) n = true := fun n hn => by
          have ea : af (tk w (sM w)) (ba w) (n + 1) = if (ba w && tk w (sM w) n) = true then false else af (tk w (sM w)) (ba w) n := rfl
          rw [ea] at hn
          cases hz : ba w && tk w (sM w) n
          · rw [hz, if_neg (by decide)] at hn
            exact ⟨rfl, hn⟩
          · rw [hz, if_pos rfl] at hn
            exact absurd hn (by decide)
        obtain ⟨s3, e3⟩ := s 3 e
        obtain ⟨s2, e2⟩ := s 2 e3
        obtain ⟨s1, e1⟩ := s 1 e2
        obtain ⟨s0, -⟩ := s 0 e1
        intro p hp
        rcases (show p = 0 ∨ p = 1 ∨ p = 2 ∨ p = 3 by omega) with rfl | rfl | rfl | rfl
        · exact s0
        · exact s1
        · exact s2
        · exact s3
      refine ⟨fo_c 4 (fun p s hp => by rw [none p hp]; rfl), fun d hd => ?_⟩
      have d9 : ∀ p, p < 4 → (0 : Int) ≤ (d p : Int) ∧ (d p : Int) ≤ 9 := fun p hp => by
        have := hd p hp
        have := RM_9 hW hp
        omega
      cases hba : ba w
      · have := offI_row hW hba hb (sub_sM w) (m := fun p => (d p : Int)) d9
        rw [offN_I, this, hba]
      · have emp : sM w = 0 := by
          apply Nat.eq_of_testBit_eq
          intro x
          cases hx : (sM w).testBit x
          · simp
          · obtain ⟨u1, u2, -⟩ := tk_in hW (hs := hi w y) (sub_sM w) sM_st x hx
            have := none _ u1
            rw [hba, u2] at this
            exact absurd this (by decide)
        rw [offN_I]
        unfold offI apa
        rw [hba, emp, if_pos rfl, if_pos rfl]
        unfold spr
        rw [if_pos rfl, if_pos rfl]
    have eX : g_Sawing_countWays F B = some (iI (cntN w (hi w y) (sM w) (nV w) (tot (RM w))), C) := by
      unfold g_Sawing_countWays
      rw [tB.2.2.1, c1, ob_some]
      have l0 := loop 4 0 F (by omega) (by omega)
      have l0' : g_Sawing_countWays_17 F F (nI 1) (nI 1) (nI 0) C = b_Sawing_countWays_64 F (iI (fr (tk w (sM w)) (RM w) (ba w) 4)) (b01 (af (tk w (sM w)) (ba w) 4)) C := l0
      rw [l0']
      unfold b_Sawing_countWays_64
      cases haf : af (tk w (sM w)) (ba w) 4
      · rw [if_pos zb0]
        -- by all, someone sits
        have some1 : ba w = true ∧ ∃ p, p < 4 ∧ tk w (sM w) p = true := by
          by_cases hh : ∃ p, p < 4 ∧ (ba w && tk w (sM w) p) = true
          · obtain ⟨p, p1, p2⟩ := hh
            rw [Bool.and_eq_true] at p2
            exact ⟨p2.1, p, p1, p2.2⟩
          · exfalso
            have none : ∀ n, n ≤ 4 → af (tk w (sM w)) (ba w) n = true := by
              intro n
              induction n with
              | zero => intro _; rfl
              | succ n ih =>
                intro hn
                have ea : af (tk w (sM w)) (ba w) (n + 1) = if (ba w && tk w (sM w) n) = true then false else af (tk w (sM w)) (ba w) n := rfl
                rw [ea, if_neg (fun z => hh ⟨n, by omega, z⟩)]
                exact ih (by omega)
            rw [none 4 (Nat.le_refl _)] at haf
            exact absurd haf (by decide)
        obtain ⟨hba, ex⟩ := some1
        unfold g_Sawing_countTakenWays
        obtain ⟨v, v1, v2⟩ := S_lowest_s (D := C) (F := F) (by omega) (T := tk w (sM w)) (l := lw w (hi w y) (sM w)) (m := fun _ => 0) (fun p hp => ⟨(c3 p hp).1, fun hT => ((c3 p hp).2 hT).1, h38 p hp⟩) (fun p hp hT => by have := tb p hp hT; omega)
        obtain ⟨⟨q0, q1, q2, q3⟩, q4⟩ := v2.resolve_left (fun z => by
          obtain ⟨p, p1, p2⟩ := ex
          rw [z.2 p p1] at p2
          exact absurd p2 (by decide))
        have q3 : v = lw w (hi w y) (sM w) q0 := by rw [q3]; exact Int.sub_zero _
        have q4 : ∀ p, p < 4 → tk w (sM w) p = true → v ≤ lw w (hi w y) (sM w) p := fun p hp hT => by
          have := q4 p hp hT
          rw [Int.sub_zero] at this
          exact this
        have vb := tb q0 q1 q2
        rw [v1, ob_some]
        have sums : g_Sawing_countTakenWays_13 F C F (C 19 2) (nI 0) (iI v) (iI v - nI 9) = some (iI (sg 10 (fun k => wb (tk w (sM w)) (lw w (hi w y) (sM w)) (tt w (hi w y) (sM w)) (RM w) (v - 9 + k) (v - 9 + k + nV w) 4 - wb (tk w (sM w)) (lw w (hi w y) (sM w)) (tt w (hi w y) (sM w)) (RM w) (v - 9 + k + 1) (v - 9 + k + nV w) 4))) := by
          have st0 : iI v - nI 9 = iI (v - 9 + (0 : Nat)) := by rw [iI_nI, iI_sub, Int.natCast_zero, Int.add_zero]; rfl
          rw [st0, c_2 cCc, wf_V hW, iI_nI (nV w)]
          refine lu0 (fun f k => g_Sawing_countTakenWays_13 F C f (iI (nV w)) (iI (sg k (fun k => wb (tk w (sM w)) (lw w (hi w y) (sM w)) (tt w (hi w y) (sM w)) (RM w) (v - 9 + k) (v - 9 + k + nV w) 4 - wb (tk w (sM w)) (lw w (hi w y) (sM w)) (tt w (hi w y) (sM w)) (RM w) (v - 9 + k + 1) (v - 9 + k + nV w) 4))) (iI v) (iI (v - 9 + k))) (n := 10) _ (by omega) (fun f k hk => ?_) (fun f => ?_)
          · rw [s_Sawing_countTakenWays_13]
            unfold b_Sawing_countTakenWays_13
            have hh : ∀ p, p < 4 → C 40 p = b01 (tk w (sM w) p) ∧ C 39 p = nI (RM w p) ∧ (tk w (sM w) p = true → C 41 p = iI (lw w (hi w y) (sM w) p) ∧ C 42 p = iI (tt w (hi w y) (sM w) p)) := fun p hp => ⟨(c3 p hp).1, h39 p hp, (c3 p hp).2⟩
            have hb' : ∀ p, p < 4 → tk w (sM w) p = true → (-10000 < lw w (hi w y) (sM w) p ∧ lw w (hi w y) (sM w) p < 10000) ∧ -10000 < tt w (hi w y) (sM w) p ∧ tt w (hi w y) (sM w) p < 10000 := fun p hp hT => by have := tb p hp hT; omega
            rw [if_neg (fun z => by rw [iI_lt (by omega) (by omega) (by omega) (by omega)] at z; omega), iI_nI 1, iI_add, iI_add, S_ways_s (by omega) hW hh hb' (by omega) (by omega), ob_some, S_ways_s (by omega) hW hh hb' (a := v - 9 + k + (1 : Nat)) (by omega) (by omega), ob_some, iI_sub, iI_add, sg_s]
            have ek : v - 9 + (k : Int) + (1 : Nat) = v - 9 + ((k + 1 : Nat) : Int) := by omega
            rw [ek]
            congr 4
            rw [show v - 9 + ((k + 1 : Nat) : Int) = v - 9 + (k : Int) + 1 by omega]
          · rw [s_Sawing_countTakenWays_13]
            unfold b_Sawing_countTakenWays_13
            rw [if_pos (by rw [iI_lt (by omega) (by omega) (by omega) (by omega)]; omega)]
        rw [sums, ob_some, iI_mul, hba]
        congr 3
        rw [← sg_ml, cnt_lo hW hba hb (sub_sM w) sM_st (V := (nV w : Int)) (by omega) ⟨q0, q1, q2, q3⟩ q4]
        refine sg_c 10 (fun k _ => ?_)
        rw [Int.mul_sub, fr_wb, fr_wb]
      · rw [if_neg zb1, tC.2.2.1, H_apart_s (F := F) (by omega) h8 tC (hi_r hW hy) (sub_sM w), ob_some, c_2 cCc, wf_V hW]
        obtain ⟨f1, f2⟩ := free haf
        have cmp : nI (nV w) < iI (apa (hi w y) (pM w) (ba w) (sM w)) ↔ ¬ apa (hi w y) (pM w) (ba w) (sM w) ≤ nV w := by
          rw [iI_nI, iI_lt (by omega) (by omega) (by omega) (by omega)]
          omega
        have ek : ∀ k : Int, (∀ a b c d, a ≤ RM w 0 → b ≤ RM w 1 → c ≤ RM w 2 → d ≤ RM w 3 → (if offN w (hi w y) (sM w) (mkd a b c d) ≤ nV w then (1 : Int) else 0) = k) → (cntN w (hi w y) (sM w) (nV w) (tot (RM w)) : Int) = fr (fun _ => false) (RM w) true 4 * k := fun k hk => by
          rw [cnt_S4 hW (sub_sM w), S4_c hk, S4_k]
        by_cases c : apa (hi w y) (pM w) (ba w) (sM w) ≤ nV w
        · rw [if_neg (fun z => cmp.mp z c), f1, ek 1 (fun a b c' d h0 h1 h2 h3 => if_pos (by rw [f2 _ (mkd_bx h0 h1 h2 h3)]; exact c)), Int.mul_one]
        · rw [if_pos (cmp.mpr c), ek 0 (fun a b c' d h0 h1 h2 h3 => if_neg (by rw [f2 _ (mkd_bx h0 h1 h2 h3)]; exact c)), Int.mul_zero]
          rfl
    rw [a1, ob_some, b1, ob_some, eX, ob_some]
    refine ⟨_, C, M, rfl, ?_, hRL⟩
    rw [eM, m3, iI_nI]
end WZ
