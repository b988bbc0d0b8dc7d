/-! ===== the reference's plans, year by year; ever, sawn, lasts ===== -/
section PN
variable {D : mx_D} {E : mx_E} {w : W_} {F : Nat}
/-- good in a year, from u on -/
def GD (w : W_) (y : Nat) (u m : Nat → Nat) : Prop := le4 u m ∧ offN w (hi w y) (sM w) m ≤ nV w
theorem GD_c (hW : WF w) {y : Nat} {u a b : Nat → Nat} (e : ∀ p, p < 4 → a p = b p) (h : GD w y u a) : GD w y u b :=
  ⟨fun q hq => by rw [← e q hq]; exact h.1 q hq, by rw [← offN_c hW (sub_sM w) e]; exact h.2⟩
/-- what the first c sawings have told of a year -/
def GI (w : W_) (y : Nat) (u : Nat → Nat) (c : Nat) (a : Bool) (s : mx_D) : Prop :=
  (∀ m, bx (RM w) m → ∃ b, s 128 (cd m) = b01 b ∧ (cod (RM w) m < c → (b = true ↔ GD w y u m)) ∧ (c ≤ cod (RM w) m → (b = true ↔ le4 u m))) ∧
  (a = true ↔ ∃ m, bx (RM w) m ∧ cod (RM w) m < c ∧ GD w y u m) ∧
  ((s 116 19 = -1 ∧ ∀ m, bx (RM w) m → cod (RM w) m < c → ¬ GD w y u m) ∨ ∃ b, bx (RM w) b ∧ GD w y u b ∧ s 116 19 = nI (su b) ∧ (∀ q, q < 4 → s 126 q = nI (b q)) ∧ ∀ m, bx (RM w) m → cod (RM w) m < c → GD w y u m → su b ≤ su m)
theorem M_82_s (hF : 100 ≤ F) {X : mx_D} (hW : WF (X 117)) {d : Nat → Nat} (hd : SW X d) (K : Int32 → mx_D → Option (Int32 × mx_D)) (g : Bool) (v : Int32) : ∃ T, b_M_goesOn_82 F K (b01 g) v X = Option.bind (g_M_nextSawing F T) (fun r => if r.1 = 0 then zk v (some (v, r.2)) else K v r.2) ∧ SW T d ∧ (∀ k, k ≠ 116 → k ≠ 126 → T k = X k) ∧ (∀ j, j ≠ 19 → T 116 j = X 116 j) ∧ if g = true then (if X 116 19 = -1 ∨ nI (su d) < X 116 19 then T 116 19 = nI (su d) ∧ ∀ q, q < 4 → T 126 q = nI (d q) else T = X) else T = X := by
  unfold b_M_goesOn_82
  cases g
  · rw [if_pos zb0]
    exact ⟨X, rfl, hd, fun _ _ _ => rfl, fun _ _ => rfl, by rw [if_neg (by decide)]⟩
  · obtain ⟨T, k1, k2, k3, k4⟩ := M_keep_s hF hW hd
    rw [if_neg zb1, k1, ob_some]
    exact ⟨T, rfl, SW_of hd (k2 117 (by decide) (by decide)) (k2 124 (by decide) (by decide)) (k2 125 (by decide) (by decide)), k2, k3, by rw [if_pos rfl]; exact k4⟩
theorem M_goes_s (hF : 20000 ≤ F) (hW : WF (D 117)) {y : Nat} (hy : y ≤ 30) {A : (Nat → Nat) → Prop} {u : Nat → Nat} (hA : CBE D A) (hu : bx (RM (D 117)) u) (hAu : A u) (hl : ∀ m, bx (RM (D 117)) m → A m → le4 u m) : ∃ a D', g_M_goesOn F (nI y) D = some (b01 a, D') ∧ FM D D' ∧ GI (D 117) y u (tot (RM (D 117))) a D' := by
  obtain ⟨S, s1, s2, s3⟩ := M_spreads_s hF hW hA hu hAu hl
  unfold g_M_goesOn
  rw [s1, ob_some]
  have hG : ∀ c, c ≠ 116 → sD S 116 19 (-1) c = S c := fun c hc => sD_nr _ _ _ hc
  have g19 : sD S 116 19 (-1) 116 19 = -1 := sD_eq _ _ _ _
  have gj : ∀ j, j ≠ 19 → sD S 116 19 (-1) 116 j = S 116 j := fun j q1 => sD_nj _ _ _ q1
  generalize sD S 116 19 (-1) = G at hG g19 gj ⊢
  have e117 : G 117 = D 117 := (hG 117 (by decide)).trans (s2 117 (by decide) (by decide) (by decide))
  obtain ⟨Z, a1, a2, a3⟩ := M_keepUn_s (F := F) (by omega) (show WF (G 117) by rw [e117]; exact hW) y
  obtain ⟨B, b1, b2, b3⟩ := M_bSaw_s (F := F) (by omega) Z
  rw [a1, ob_some, b1, ob_some]
  have eB : B 117 = D 117 := by rw [b2 117 (by decide) (by decide), a2 117 (by decide) (by decide), e117]
  have hB : ∀ c, c ≠ 116 → c ≠ 123 → c ≠ 124 → c ≠ 125 → c ≠ 127 → c ≠ 128 → B c = D c := fun c q1 q2 q3 q4 q5 q6 => by rw [b2 c q3 q4, a2 c q2 q5, hG c q1, s2 c q3 q4 q6]
  have hBj : ∀ j, j ≠ 19 → B 116 j = D 116 j := fun j hj => by rw [b2 116 (by decide) (by decide), a2 116 (by decide) (by decide), gj j hj, s2 116 (by decide) (by decide) (by decide)]
  have B19 : B 116 19 = -1 := by rw [b2 116 (by decide) (by decide), a2 116 (by decide) (by decide)]; exact g19
  have B128 : B 128 = S 128 := by rw [b2 128 (by decide) (by decide), a2 128 (by decide) (by decide), hG 128 (by decide)]
  rw [e117] at a3
  unfold CBE at s3
  rw [s2 117 (by decide) (by decide) (by decide)] at s3
  have tb := tot_b hW
  have hb := hi_9 hW hy
  have hv := wf_V30 hW
  generalize hw : D 117 = w at hu hl a3 eB hW tb s3 hb hv
  have h127 : ∀ x, x < nA w → B 127 x = iI (hi w y x) := fun x hx => by rw [b2 127 (by decide) (by decide)]; exact a3 x hx
  obtain ⟨r, r1, ⟨r2, r2'⟩, a, r3, r4⟩ := lp (fun c (s : Bool × mx_D) => c < tot (RM w) ∧ ((∀ k, k ≠ 116 → k ≠ 123 → k ≠ 125 → k ≠ 126 → k ≠ 128 → s.2 k = B k) ∧ ∀ j, j ≠ 19 → s.2 116 j = B 116 j) ∧ (∃ d, cod (RM w) d = c ∧ SW s.2 d) ∧ GI w y u c s.1 s.2) (fun (r : Int32 × mx_D) => ((∀ k, k ≠ 116 → k ≠ 123 → k ≠ 125 → k ≠ 126 → k ≠ 128 → r.2 k = B k) ∧ ∀ j, j ≠ 19 → r.2 116 j = B 116 j) ∧ ∃ a, r.1 = b01 a ∧ GI w y u (tot (RM w)) a r.2) (fun f _ s => g_M_goesOn_20 F f (b01 s.1) s.2) (tot (RM w)) (fun f c s hc hI => by
    obtain ⟨a, s⟩ := s
    obtain ⟨-, ⟨i1, i1'⟩, ⟨d, rfl, i2⟩, i3, i4, i5⟩ := hI
    dsimp only at i1 i1' i2 i3 i4 i5
    have e117 : s 117 = w := (i1 117 (by decide) (by decide) (by decide) (by decide) (by decide)).trans eB
    have hWs : WF (s 117) := by rw [e117]; exact hW
    have hbx : bx (RM w) d := by have := i2.1; rw [e117] at this; exact this
    have hcd := cd_b hW hbx
    obtain ⟨M, m1, m2, m3⟩ := M_layMore_s (F := F) (by omega) hWs i2 (hs := hi w y) (by rw [e117]; exact fun x hx => by rw [i1 127 (by decide) (by decide) (by decide) (by decide) (by decide)]; exact h127 x hx)
    have eM : M 117 = w := (m2 117 (by decide)).trans e117
    have hWM : WF (M 117) := by rw [eM]; exact hW
    have dM : SW M d := SW_of i2 (m2 117 (by decide)) (m2 124 (by decide)) (m2 125 (by decide))
    have ul := M_unlevel_s (F := F) (by omega) hWM (hs := hsm w (hi w y) (fun p => (d p : Int))) (by rw [eM, ← e117]; rw [e117] at m3 ⊢; exact m3) (by rw [eM]; exact hsm_b hW hb hbx) (m := sM w) (by rw [eM]; exact sub_sM w)
    rw [eM] at ul
    have ob := offN_b hW hb (sub_sM w) hbx
    have eo : apa (hsm w (hi w y) (fun p => (d p : Int))) (pM w) (ba w) (sM w) = offN w (hi w y) (sM w) d := rfl
    rw [eo] at ul
    obtain ⟨b0, j1, -, j3⟩ := i3 d hbx
    have j4 := j3 (Nat.le_refl _)
    -- good or not
    have good : ∃ g : Bool, (g = true ↔ GD w y u d) ∧ g_M_goesOn_20 F (f + 1) (b01 a) s = b_M_goesOn_58 F (g_M_goesOn_20 F f) (b01 a) (b01 g) M := by
      have cmp : nI (nV w) < iI (offN w (hi w y) (sM w) d) ↔ ¬ offN w (hi w y) (sM w) d ≤ nV w := by
        rw [iI_nI, iI_lt (by omega) (by omega) (by omega) (by omega)]
        omega
      have e1 : g_M_goesOn_20 F (f + 1) (b01 a) s = if b01 b0 = 0 then b_M_goesOn_57 F (g_M_goesOn_20 F f) (b01 a) M else if nI (nV w) < iI (offN w (hi w y) (sM w) d) then b_M_goesOn_57 F (g_M_goesOn_20 F f) (b01 a) M else b_M_goesOn_58 F (g_M_goesOn_20 F f) (b01 a) (nI 1) M := by
        rw [s_M_goesOn_20]
        unfold b_M_goesOn_20
        rw [m1, ob_some, M_code_s (by omega) hWM dM, ob_some, rk_in hcd (by decide), nI_clamp (by omega), m2 128 (by decide), j1, M_sitters_s (by omega) hWM, ob_some, eM, ul, ob_some, wf_V hW]
      rw [e1]
      cases b0
      · rw [if_pos zb0]
        exact ⟨false, ⟨fun e => absurd e (by decide), fun h => absurd (j4.mpr h.1) (by decide)⟩, rfl⟩
      · rw [if_neg zb1]
        by_cases c : offN w (hi w y) (sM w) d ≤ nV w
        · rw [if_neg (fun q => cmp.mp q c)]
          exact ⟨true, ⟨fun _ => ⟨j4.mp rfl, c⟩, fun _ => rfl⟩, rfl⟩
        · rw [if_pos (cmp.mpr c)]
          exact ⟨false, ⟨fun e => absurd e (by decide), fun h => absurd h.2 c⟩, rfl⟩
    obtain ⟨g, g1, g2⟩ := good
    have e58 : b_M_goesOn_58 F (g_M_goesOn_20 F f) (b01 a) (b01 g) M = b_M_goesOn_82 F (g_M_goesOn_20 F f) (b01 g) (b01 (a || g)) (sD M 128 (cd d) (b01 g)) := by
      unfold b_M_goesOn_58 b_M_goesOn_77
      rw [M_code_s (by omega) hWM dM, ob_some, rk_in hcd (by decide), nI_clamp (by omega), nar_b]
      cases a
      · cases g
        · rw [if_pos zb0, if_pos zb0]
          rfl
        · rw [if_pos zb0, if_neg zb1]
          rfl
      · rw [if_neg zb1]
        rfl
    show (∃ r, g_M_goesOn_20 F (f + 1) (b01 a) s = some r ∧ _) ∨ ∃ s' : Bool × mx_D, _ ∧ g_M_goesOn_20 F (f + 1) (b01 a) s = g_M_goesOn_20 F f (b01 s'.1) s'.2
    rw [g2, e58]
    have hX : ∀ k, k ≠ 128 → sD M 128 (cd d) (b01 g) k = M k := fun k hk => sD_nr _ _ _ hk
    have x1 : sD M 128 (cd d) (b01 g) 128 (cd d) = b01 g := sD_eq _ _ _ _
    have xo : ∀ j, j ≠ cd d → sD M 128 (cd d) (b01 g) 128 j = M 128 j := fun j hj => sD_nj _ _ _ hj
    generalize sD M 128 (cd d) (b01 g) = X at hX x1 xo ⊢
    have eX : X 117 = w := (hX 117 (by decide)).trans eM
    have dX : SW X d := SW_of dM (hX 117 (by decide)) (hX 124 (by decide)) (hX 125 (by decide))
    obtain ⟨T, t1, t2, t3, t4, t5⟩ := M_82_s (F := F) (by omega) (show WF (X 117) by rw [eX]; exact hW) dX (g_M_goesOn_20 F f) g (b01 (a || g))
    have eT : T 117 = w := (t3 117 (by decide) (by decide)).trans eX
    obtain ⟨N, d', n1, n2, n3⟩ := M_next_s (F := F) (by omega) (show WF (T 117) by rw [eT]; exact hW) t2
    rw [eT] at n1 n3
    rw [t1, n1, ob_some, zk_b]
    have fN : (∀ k, k ≠ 116 → k ≠ 123 → k ≠ 125 → k ≠ 126 → k ≠ 128 → N k = B k) ∧ ∀ j, j ≠ 19 → N 116 j = B 116 j := ⟨fun k q1 q2 q3 q4 q5 => by rw [n2 k q3, t3 k q1 q4, hX k q5, m2 k q2, i1 k q1 q2 q3 q4 q5], fun j hj => by rw [n2 116 (by decide), t4 j hj, hX 116 (by decide), m2 116 (by decide), i1' j hj]⟩
    have new : ∀ m, bx (RM w) m → cod (RM w) m < cod (RM w) d + 1 → cod (RM w) m < cod (RM w) d ∨ ∀ p, p < 4 → m p = d p := fun m hm hc => by
      rcases Nat.lt_or_ge (cod (RM w) m) (cod (RM w) d) with q | q
      · exact Or.inl q
      · exact Or.inr (cod_inj hm hbx (by omega))
    have x19 : X 116 19 = s 116 19 := by rw [hX 116 (by decide), m2 116 (by decide)]
    have x126 : X 126 = s 126 := by rw [hX 126 (by decide), m2 126 (by decide)]
    have hGI : GI w y u (cod (RM w) d + 1) (a || g) N := by
      refine ⟨fun m hm => ?_, ?_, ?_⟩
      · rw [n2 128 (by decide), t3 128 (by decide) (by decide)]
        by_cases e : cd m = cd d
        · have e4 := cd_inj hW hm hbx e
          have ec := cod_c (R := RM w) e4
          rw [e, x1]
          exact ⟨g, rfl, fun _ => g1.trans ⟨GD_c hW (fun p hp => (e4 p hp).symm), GD_c hW e4⟩, fun h => by omega⟩
        · rw [xo _ e, m2 128 (by decide)]
          obtain ⟨b, p1, p2, p3⟩ := i3 m hm
          refine ⟨b, p1, fun h => p2 ?_, fun h => p3 (by omega)⟩
          rcases new m hm h with q | q
          · exact q
          · exact absurd (cd_c q) e
      · rw [Bool.or_eq_true, i4, g1]
        constructor
        · rintro (⟨m, q1, q2, q3⟩ | q)
          · exact ⟨m, q1, by omega, q3⟩
          · exact ⟨d, hbx, Nat.lt_succ_self _, q⟩
        · rintro ⟨m, q1, q2, q3⟩
          rcases new m q1 q2 with q | q
          · exact Or.inl ⟨m, q1, q, q3⟩
          · exact Or.inr (GD_c hW q q3)
      · rw [n2 116 (by decide), n2 126 (by decide)]
        have hs36 := su_36 hW hbx
        have same : ∀ m, (∀ p, p < 4 → m p = d p) → su d ≤ su m := fun m q => by
          unfold su
          rw [q 0 (by decide), q 1 (by decide), q 2 (by decide), q 3 (by decide)]
          exact Nat.le_refl _
        cases g
        · rw [if_neg (by decide)] at t5
          have ng : ¬ GD w y u d := fun h => absurd (g1.mpr h) (by decide)
          have no : ∀ m, bx (RM w) m → cod (RM w) m < cod (RM w) d + 1 → GD w y u m → cod (RM w) m < cod (RM w) d := fun m hm hc hg => by
            rcases new m hm hc with q | q
            · exact q
            · exact absurd (GD_c hW q hg) ng
          rw [t5, x19, x126]
          rcases i5 with ⟨p1, p2⟩ | ⟨b, p1, p2, p3, p4, p5⟩
          · exact Or.inl ⟨p1, fun m hm hc hg => p2 m hm (no m hm hc hg) hg⟩
          · exact Or.inr ⟨b, p1, p2, p3, p4, fun m hm hc hg => p5 m hm (no m hm hc hg) hg⟩
        · rw [if_pos rfl, x19] at t5
          have gd := g1.mp rfl
          rcases i5 with ⟨p1, p2⟩ | ⟨b, p1, p2, p3, p4, p5⟩
          · rw [if_pos (Or.inl p1)] at t5
            refine Or.inr ⟨d, hbx, gd, t5.1, t5.2, fun m hm hc hg => ?_⟩
            rcases new m hm hc with q | q
            · exact absurd hg (p2 m hm q)
            · exact same m q
          · have hb36 := su_36 hW p1
            have b1' : ¬ s 116 19 = -1 := by rw [p3]; exact nI_m1 (by omega)
            by_cases z : su d < su b
            · rw [if_pos (Or.inr (by rw [p3]; exact nI_lt z (by omega)))] at t5
              refine Or.inr ⟨d, hbx, gd, t5.1, t5.2, fun m hm hc hg => ?_⟩
              rcases new m hm hc with q | q
              · have := p5 m hm q hg
                omega
              · exact same m q
            · rw [if_neg (fun e => e.elim b1' (fun e => by rw [p3] at e; exact nI_nlt (by omega) (by omega) e))] at t5
              rw [t5, x19, x126]
              refine Or.inr ⟨b, p1, p2, p3, p4, fun m hm hc hg => ?_⟩
              rcases new m hm hc with q | q
              · exact p5 m hm q hg
              · have := same m q
                omega
    by_cases c : cod (RM w) d + 1 < tot (RM w)
    · refine Or.inr ⟨(a || g, N), ⟨c, fN, ⟨d', (n3 c).2, (n3 c).1⟩, hGI⟩, ?_⟩
      rw [decide_eq_true c, if_neg zb1]
    · refine Or.inl ⟨_, by rw [decide_eq_false c, if_pos zb0], fN, a || g, rfl, ?_⟩
      have : cod (RM w) d + 1 = tot (RM w) := by omega
      rw [← this]
      exact hGI) (fun f s hI => absurd hI.1 (Nat.lt_irrefl _)) (tot (RM w)) F 0 (false, B) (by omega) (by omega) ⟨tb.1, ⟨fun _ _ _ _ _ _ => rfl, fun _ _ => rfl⟩, ⟨fun _ => 0, by unfold cod; simp, b3⟩, ⟨fun m hm => by
      obtain ⟨b, p1, p2⟩ := s3 m hm
      exact ⟨b, by show B 128 (cd m) = b01 b; rw [B128]; exact p1, fun h => absurd h (Nat.not_lt_zero _), fun _ => p2⟩, ⟨fun e => absurd (show false = true from e) (by decide), fun ⟨m, _, h, _⟩ => absurd h (Nat.not_lt_zero _)⟩, Or.inl ⟨B19, fun m _ h => absurd h (Nat.not_lt_zero _)⟩⟩⟩
  have fr : ∀ c, c ≠ 116 → c ≠ 123 → c ≠ 124 → c ≠ 125 → c ≠ 126 → c ≠ 127 → c ≠ 128 → r.2 c = D c := fun c q1 q2 q3 q4 q5 q6 q7 => by rw [r2 c q1 q2 q4 q5 q7, hB c q1 q2 q3 q4 q6 q7]
  have fj : ∀ j, j ≠ 19 → r.2 116 j = D 116 j := fun j q1 => by rw [r2' j q1, hBj j q1]
  refine ⟨a, r.2, by rw [← r3]; exact r1, ⟨fun c hc => fr c (by omega) (by omega) (by omega) (by omega) (by omega) (by omega) (by omega), ⟨fr _ (by decide) (by decide) (by decide) (by decide) (by decide) (by decide) (by decide), fr _ (by decide) (by decide) (by decide) (by decide) (by decide) (by decide) (by decide), fr _ (by decide) (by decide) (by decide) (by decide) (by decide) (by decide) (by decide), fr _ (by decide) (by decide) (by decide) (by decide) (by decide) (by decide) (by decide), fr _ (by decide) (by decide) (by decide) (by decide) (by decide) (by decide) (by decide), fr _ (by decide) (by decide) (by decide) (by decide) (by decide) (by decide) (by decide)⟩, fj _ (by decide), fj _ (by decide), fj _ (by decide)⟩, r4⟩
/-- the years one by one -/
theorem M_years_s (hF : 20000 ≤ F) {n : Nat} (hn : n ≤ 30) : ∀ k y f (D : mx_D) (u : Nat → Nat) (A : (Nat → Nat) → Prop), y + k = n + 1 → k < f → WF (D 117) → PR (D 117) y (fun p => (u p : Int)) → bx (RM (D 117)) u → CBE D A → A u → (∀ m, bx (RM (D 117)) m → A m → le4 u m) → (y = 0 ∨ (D 116 19 = nI (su u) ∧ ∀ q, q < 4 → D 126 q = nI (u q))) → ∃ r D', g_M_plansUpTo_34 F f (nI n) (nI y) D = some (r, D') ∧ FM D D' ∧ ((r = nI n ∧ ∃ u : Nat → Nat, PR (D 117) (n + 1) (fun p => (u p : Int)) ∧ bx (RM (D 117)) u ∧ D' 116 19 = nI (su u) ∧ ∀ q, q < 4 → D' 126 q = nI (u q)) ∨ ∃ k, k ≤ n ∧ r = iI ((k : Int) - 1) ∧ NO (D 117) k) := by
  intro k
  induction k with
  | zero =>
    intro y f D u A hy hf hW hP hu hA hAu hl hz
    obtain ⟨f, rfl⟩ : ∃ g, f = g + 1 := ⟨f - 1, by omega⟩
    obtain rfl : y = n + 1 := by omega
    obtain ⟨z1, z2⟩ := hz.resolve_left (by omega)
    refine ⟨nI n, D, ?_, FM_r D, Or.inl ⟨rfl, u, hP, hu, z1, z2⟩⟩
    rw [s_M_plansUpTo_34]
    unfold b_M_plansUpTo_34
    rw [if_pos (nI_lt (by omega) (by omega))]
  | succ k ih =>
    intro y f D u A hy hf hW hP hu hA hAu hl hz
    obtain ⟨f, rfl⟩ : ∃ g, f = g + 1 := ⟨f - 1, by omega⟩
    have hv := wf_V30 hW
    obtain ⟨a, G, g1, g2, g3, g4, g5⟩ := M_goes_s hF hW (show y ≤ 30 by omega) hA hu hAu hl
    have e117 : G 117 = D 117 := g2.2.1.1
    have hb := PR_b y _ hP
    -- good sawings and solutions
    have gs : ∀ m, bx (RM (D 117)) m → GD (D 117) y u m → SOL (D 117) (hi (D 117) y) (sM (D 117)) (nV (D 117)) (fun p => (u p : Int)) (fun p => (m p : Int)) := fun m hm hg =>
      ⟨fun p hp => ⟨Int.ofNat_le.mpr (hg.1 p hp), Int.ofNat_le.mpr (hm p hp)⟩, hg.2⟩
    have sg : ∀ m, SOL (D 117) (hi (D 117) y) (sM (D 117)) (nV (D 117)) (fun p => (u p : Int)) m → bx (RM (D 117)) (fun p => (m p).toNat) ∧ GD (D 117) y u (fun p => (m p).toNat) ∧ ∀ p, p < 4 → (((m p).toNat : Nat) : Int) = m p := fun m hm => by
      obtain ⟨q1, q2, q3⟩ := SOL_N hW (sub_sM _) (fun _ _ => Int.natCast_nonneg _) hm
      refine ⟨q1, ⟨fun p hp => ?_, q2⟩, q3⟩
      have h1 : (u p : Int) ≤ m p := (hm.1 p hp).1
      have h2 := q3 p hp
      show u p ≤ (m p).toNat
      omega
    have e1 : g_M_plansUpTo_34 F (f + 1) (nI n) (nI y) D = if a = true then g_M_plansUpTo_34 F f (nI n) (nI (y + 1)) G else some (iI ((y : Int) - 1), G) := by
      rw [s_M_plansUpTo_34]
      unfold b_M_plansUpTo_34
      rw [if_neg (nI_nlt (by omega) (by omega)), g1, ob_some]
      cases a
      · rw [if_pos zb0, if_neg (by decide), iI_nI, iI_nI 1, iI_sub]
        rfl
      · rw [if_neg zb1, if_pos rfl, nI_add]
    rw [e1]
    cases a
    · rw [if_neg (by decide)]
      refine ⟨_, G, rfl, g2, Or.inr ⟨y, by omega, rfl, _, hP, fun m hm => ?_⟩⟩
      obtain ⟨q1, q2, -⟩ := sg m hm
      exact absurd (g4.mpr ⟨_, q1, cod_lt q1, q2⟩) (by decide)
    · rw [if_pos rfl]
      obtain ⟨m0, p1, -, p3⟩ := g4.mp rfl
      obtain ⟨m, hm⟩ := LEA_ex hW (hi_9 hW (show y ≤ 30 by omega)) (sub_sM _) sM_st (L := (nV (D 117) : Int)) (by omega) (by omega) hb ⟨_, gs m0 p1 p3⟩
      obtain ⟨q1, q2, q3⟩ := sg m hm.1
      -- its numbers
      have hPR : PR (D 117) (y + 1) (fun p => (((m p).toNat : Nat) : Int)) := by
        refine ⟨_, hP, ⟨⟨fun p hp => ?_, q2.2⟩, fun m' hm' p hp => ?_⟩⟩
        · show (u p : Int) ≤ (((m p).toNat : Nat) : Int) ∧ (((m p).toNat : Nat) : Int) ≤ (RM (D 117) p : Int)
          rw [q3 p hp]
          exact hm.1.1 p hp
        · show (((m p).toNat : Nat) : Int) ≤ m' p
          rw [q3 p hp]
          exact hm.2 m' hm' p hp
      have least : ∀ m', bx (RM (D 117)) m' → GD (D 117) y u m' → le4 (fun p => (m p).toNat) m' := fun m' hm' hg p hp => by
        have : m p ≤ (m' p : Int) := hm.2 _ (gs m' hm' hg) p hp
        show (m p).toNat ≤ m' p
        omega
      have hCB : CBE G (GD (D 117) y u) := by
        unfold CBE
        rw [e117]
        intro m' hm'
        obtain ⟨b, z1, z2, -⟩ := g3 m' hm'
        exact ⟨b, z1, z2 (cod_lt hm')⟩
      have best : G 116 19 = nI (su (fun p => (m p).toNat)) ∧ ∀ q, q < 4 → G 126 q = nI ((fun p => (m p).toNat) q) := by
        rcases g5 with ⟨-, z⟩ | ⟨b, z1, z2, z3, z4, z5⟩
        · exact absurd q2 (z _ q1 (cod_lt q1))
        · have l1 := least b z1 z2
          have l2 := z5 _ q1 (cod_lt q1) q2
          have a0 := l1 0 (by decide)
          have a1 := l1 1 (by decide)
          have a2 := l1 2 (by decide)
          have a3 := l1 3 (by decide)
          have eb : ∀ q, q < 4 → b q = (fun p => (m p).toNat) q := by
            unfold su at l2
            intro q hq
            rcases (show q = 0 ∨ q = 1 ∨ q = 2 ∨ q = 3 by omega) with rfl | rfl | rfl | rfl <;> omega
          refine ⟨?_, fun q hq => by rw [z4 q hq, eb q hq]⟩
          rw [z3]
          unfold su
          rw [eb 0 (by decide), eb 1 (by decide), eb 2 (by decide), eb 3 (by decide)]
      have nxt := ih (y + 1) f G (fun p => (m p).toNat) (GD (D 117) y u) (by omega) (by omega) (by rw [e117]; exact hW) (by rw [e117]; exact hPR) (by rw [e117]; exact q1) hCB q2 (by rw [e117]; exact least) (Or.inr best)
      rw [e117] at nxt
      obtain ⟨r, B, b1, b2, b3⟩ := nxt
      exact ⟨r, B, b1, FM_t g2 b2, b3⟩
theorem M_plans_s (hF : 20000 ≤ F) (hW : WF (D 117)) {n : Nat} (hn : n ≤ 30) : ∃ r D', g_M_plansUpTo F (nI n) D = some (r, D') ∧ FM D D' ∧ ((r = nI n ∧ ∃ u : Nat → Nat, PR (D 117) (n + 1) (fun p => (u p : Int)) ∧ bx (RM (D 117)) u ∧ D' 116 19 = nI (su u) ∧ ∀ q, q < 4 → D' 126 q = nI (u q)) ∨ ∃ k, k ≤ n ∧ r = iI ((k : Int) - 1) ∧ NO (D 117) k) := by
  unfold g_M_plansUpTo
  have key : ∀ k a f (s : mx_D), a + k = 10000 → k < f → (∀ c, c ≠ 128 → s c = D c) → (∀ j, j < a → s 128 j = b01 (decide (j = 0))) → ∃ s', g_M_plansUpTo_2 F f (nI n) (nI a) s = g_M_plansUpTo_34 F F (nI n) (nI 0) s' ∧ (∀ c, c ≠ 128 → s' c = D c) ∧ ∀ j, j < 10000 → s' 128 j = b01 (decide (j = 0)) := by
    intro k
    induction k with
    | zero =>
      intro a f s ha hf h1 h2
      obtain ⟨f, rfl⟩ : ∃ g, f = g + 1 := ⟨f - 1, by omega⟩
      obtain rfl : a = 10000 := by omega
      refine ⟨s, ?_, h1, h2⟩
      rw [s_M_plansUpTo_2]
      unfold b_M_plansUpTo_2
      rw [if_pos (by decide)]
    | succ k ih =>
      intro a f s ha hf h1 h2
      obtain ⟨f, rfl⟩ : ∃ g, f = g + 1 := ⟨f - 1, by omega⟩
      obtain ⟨s', q1, q2, q3⟩ := ih (a + 1) f (sD s 128 a (b01 (decide (a = 0)))) (by omega) (by omega) (fun c hc => by rw [sD_nr _ _ _ hc, h1 c hc]) (fun j hj => by
        by_cases e : j = a
        · subst e
          exact sD_eq _ _ _ _
        · rw [sD_nj _ _ _ e]
          exact h2 j (by omega))
      refine ⟨s', ?_, q2, q3⟩
      rw [← q1]
      rw [s_M_plansUpTo_2]
      unfold b_M_plansUpTo_2
      rw [if_neg (nI_ge (by omega) (by decide)), nI_add]
      by_cases e : a = 0
      · subst e
        rw [if_pos z0, rk_in (by decide) (by decide), nar_1]
        rfl
      · rw [if_neg (fun z => e ((nI_z a (by omega)).mp z)), rk_in (by omega) (by decide), nar_0, nI_clamp (by omega), decide_eq_false e]
        rfl
  obtain ⟨s', q1, q2, q3⟩ := key 10000 0 F D (by omega) (by omega) (fun _ _ => rfl) (fun j hj => absurd hj (Nat.not_lt_zero j))
  have q1' : g_M_plansUpTo_2 F F (nI n) (nI 0) D = g_M_plansUpTo_34 F F (nI n) (nI 0) s' := q1
  have e117 := q2 117 (by decide)
  have hcb : CBE s' (fun m => ∀ p, p < 4 → m p = 0) := by
    unfold CBE
    rw [e117]
    intro m hm
    refine ⟨_, q3 _ (cd_b hW hm), ?_⟩
    rw [decide_eq_true_eq]
    unfold cd
    constructor
    · intro e p hp
      rcases (show p = 0 ∨ p = 1 ∨ p = 2 ∨ p = 3 by omega) with rfl | rfl | rfl | rfl <;> omega
    · intro e
      rw [e 0 (by decide), e 1 (by decide), e 2 (by decide), e 3 (by decide)]
  have key2 := M_years_s hF hn (n + 1) 0 F s' (fun _ => 0) _ (by omega) (by omega) (by rw [e117]; exact hW) rfl (fun p _ => Nat.zero_le _) hcb (fun _ _ => rfl) (fun m _ hm p hp => Nat.zero_le _) (Or.inl rfl)
  rw [e117] at key2
  obtain ⟨r, B, b1, b2, b3⟩ := key2
  have f116 := q2 116 (by decide)
  have hfm : FM D s' := ⟨fun c hc => q2 c (by omega), ⟨q2 _ (by decide), q2 _ (by decide), q2 _ (by decide), q2 _ (by decide), q2 _ (by decide), q2 _ (by decide)⟩, by rw [f116], by rw [f116], by rw [f116]⟩
  exact ⟨r, B, by rw [q1']; exact b1, FM_t hfm b2, b3⟩
theorem PR_su {k : Nat} {m : Nat → Int} {u : Nat → Nat} (h : PR w k m) (h' : PR w k (fun p => (u p : Int))) : ∀ p, p < 4 → m p = u p := PR_u k m _ h h'
theorem km1 {n k : Nat} (hn : n ≤ 30) (hk : k ≤ n) : ¬ nI n ≤ iI ((k : Int) - 1) ∧ ¬ iI ((k : Int) - 1) = nI n := by
  rw [iI_nI, iI_le (by omega) (by omega) (by omega) (by omega), iI_eq (by omega) (by omega) (by omega) (by omega)]
  omega
theorem op_ever (hF : 20000 ≤ F) (h : RL D E) (a : Int32) : ∃ r D1 D2, g_X_ever F a D = some (r, D1) ∧ g_M_ever F a D1 = some (r, D2) ∧ RL D2 E := by
  have hW := h.1
  have hC := h.2.2.1
  unfold g_X_ever
  rw [X_canAsk_s hC hW, b01_if]
  rcases yr_c (D 117) a with q | ⟨n, hn, rfl, hP, q⟩
  · rw [q, if_neg (by decide)]
    refine ⟨_, D, D, rfl, ?_, h⟩
    unfold g_M_ever
    rw [M_isYear_s hW, b01_if, q, if_neg (by decide)]
  · rw [q, if_pos rfl]
    obtain ⟨r, A, a1, a2, a3⟩ := X_plans_s (F := F) (by omega) hC hW hn
    have e117 : A 117 = D 117 := a2 117 (by omega)
    obtain ⟨r', M, m1, m2, m3⟩ := M_plans_s (D := A) hF (by rw [e117]; exact hW) hn
    rw [e117] at m3
    have hRL := RL_q h (FR_XM a2 m2) (E' := E) (fun _ _ _ => rfl)
    have eM : g_M_ever F (nI n) A = if r' = nI n then some (M 116 19, M) else some (-1, M) := by
      unfold g_M_ever
      rw [M_isYear_s (by rw [e117]; exact hW), b01_if, e117, q, if_pos rfl, m1, ob_some]
    rw [a1, ob_some]
    dsimp only
    rcases a3 with ⟨rfl, m, p1, p2⟩ | ⟨k, p1, rfl, p2⟩
    · rw [if_pos (Int32.le_refl _), S_together_s (F := F) (by omega) p2, ob_some]
      refine ⟨_, A, M, rfl, ?_, hRL⟩
      rcases m3 with ⟨rfl, u, q1, q2, q3, q4⟩ | ⟨k, q1, rfl, q2⟩
      · have e := PR_su p1 q1
        rw [eM, if_pos rfl, q3, e 0 (by decide), e 1 (by decide), e 2 (by decide), e 3 (by decide), iI_nI]
        unfold su
        congr 3
      · exact absurd p1 (NO_PR q2 (by omega))
    · rw [if_neg (km1 hn p1).1]
      refine ⟨_, A, M, rfl, ?_, hRL⟩
      rcases m3 with ⟨rfl, u, q1, q2, q3, q4⟩ | ⟨k', q1, rfl, q2⟩
      · exact absurd q1 (NO_PR p2 (by omega))
      · rw [eM, if_neg (km1 hn q1).2]
theorem op_sawn (hF : 20000 ≤ F) (h : RL D E) (a b : Int32) : ∃ r D1 D2, g_X_sawn F a b D = some (r, D1) ∧ g_M_sawn F a b D1 = some (r, D2) ∧ RL D2 E := by
  have hW := h.1
  have hC := h.2.2.1
  have h4 := wf_P4 hW
  unfold g_X_sawn
  rw [X_canAsk_s hC hW, b01_if]
  rcases yr_c (D 117) a with q | ⟨n, hn, rfl, hP, q⟩
  · rw [q, if_neg (by decide)]
    refine ⟨_, D, D, rfl, ?_, h⟩
    unfold g_M_sawn
    rw [M_isYear_s hW, b01_if, q, if_neg (by decide)]
  · rw [q, if_pos rfl, C_hasPew_s hC hW, b01_if]
    rcases vx_c b (nP (D 117)) (by omega) with hp | ⟨j, hj, rfl⟩
    · rw [hp, if_neg (by decide)]
      refine ⟨_, D, D, rfl, ?_, h⟩
      unfold g_M_sawn
      rw [M_isYear_s hW, b01_if, q, if_pos rfl, M_isPew_s hW, vl_i, hp, b01_if, if_neg (by decide)]
    · have hvj : vx (nI j) (nP (D 117)) = true := by rw [vx_nI (by omega)]; exact decide_eq_true hj
      rw [hvj, if_pos rfl]
      obtain ⟨r, A, a1, a2, a3⟩ := X_plans_s (F := F) (by omega) hC hW hn
      have e117 : A 117 = D 117 := a2 117 (by omega)
      obtain ⟨r', M, m1, m2, m3⟩ := M_plans_s (D := A) hF (by rw [e117]; exact hW) hn
      rw [e117] at m3
      have hRL := RL_q h (FR_XM a2 m2) (E' := E) (fun _ _ _ => rfl)
      have eM : g_M_sawn F (nI n) (nI j) A = if r' = nI n then some (M 126 j, M) else some (-1, M) := by
        unfold g_M_sawn
        rw [M_isYear_s (by rw [e117]; exact hW), b01_if, e117, q, if_pos rfl, M_isPew_s (by rw [e117]; exact hW), vl_i, e117, hvj, b01_if, if_pos rfl, m1, ob_some, rk_in (show j < 4 by omega) (by decide), nI_clamp (by omega)]
      rw [a1, ob_some]
      dsimp only
      rcases a3 with ⟨rfl, m, p1, p2⟩ | ⟨k, p1, rfl, p2⟩
      · rw [if_pos (Int32.le_refl _), rk_in (show j < 4 by omega) (by decide), nI_clamp (by omega), p2 j (by omega)]
        refine ⟨_, A, M, rfl, ?_, hRL⟩
        rcases m3 with ⟨rfl, u, q1, q2, q3, q4⟩ | ⟨k, q1, rfl, q2⟩
        · rw [eM, if_pos rfl, q4 j (by omega), PR_su p1 q1 j (by omega), iI_nI]
        · exact absurd p1 (NO_PR q2 (by omega))
      · rw [if_neg (km1 hn p1).1]
        refine ⟨_, A, M, rfl, ?_, hRL⟩
        rcases m3 with ⟨rfl, u, q1, q2, q3, q4⟩ | ⟨k', q1, rfl, q2⟩
        · exact absurd q1 (NO_PR p2 (by omega))
        · rw [eM, if_neg (km1 hn q1).2]
theorem op_lasts (hF : 20000 ≤ F) (h : RL D E) : ∃ r D1 D2, g_X_lasts F D = some (r, D1) ∧ g_M_lasts F D1 = some (r, D2) ∧ RL D2 E := by
  have hW := h.1
  have hC := h.2.2.1
  unfold g_X_lasts
  rw [C_isThere_s hC hW, b01_if]
  by_cases hP : 0 < nP (D 117)
  · rw [decide_eq_true hP, if_pos rfl]
    obtain ⟨r, A, a1, a2, a3⟩ := X_plans_s (F := F) (by omega) hC hW (n := 30) (by decide)
    have e117 : A 117 = D 117 := a2 117 (by omega)
    obtain ⟨r', M, m1, m2, m3⟩ := M_plans_s (D := A) hF (by rw [e117]; exact hW) (n := 30) (by decide)
    rw [e117] at m3
    have hRL := RL_q h (FR_XM a2 m2) (E' := E) (fun _ _ _ => rfl)
    have er : r = r' := by
      rcases a3 with ⟨rfl, m, p1, p2⟩ | ⟨k, p1, rfl, p2⟩
      · rcases m3 with ⟨rfl, -⟩ | ⟨k, q1, rfl, q2⟩
        · rfl
        · exact absurd p1 (NO_PR q2 (by omega))
      · rcases m3 with ⟨rfl, u, q1, -⟩ | ⟨k', q1, rfl, q2⟩
        · exact absurd q1 (NO_PR p2 (by omega))
        · rw [NO_eq p2 q2]
    subst er
    rw [a1, ob_some]
    refine ⟨_, A, M, rfl, ?_, hRL⟩
    unfold g_M_lasts
    rw [M_isChurch_s (by rw [e117]; exact hW), b01_if, e117, decide_eq_true hP, if_pos rfl, m1, ob_some]
  · rw [decide_eq_false hP, if_neg (by decide)]
    refine ⟨_, D, D, rfl, ?_, h⟩
    unfold g_M_lasts
    rw [M_isChurch_s hW, b01_if, decide_eq_false hP, if_neg (by decide)]
end PN
