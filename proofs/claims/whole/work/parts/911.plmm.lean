/-! ===== the reference's plans: what can be sawn by each year ===== -/
section PM
variable {D : mx_D} {E : mx_E} {w : W_} {F : Nat}
theorem M_spreads_s (hF : 20000 ≤ F) (hW : WF (D 117)) {A : (Nat → Nat) → Prop} {u : Nat → Nat} (hA : CBE D A) (hu : bx (RM (D 117)) u) (hAu : A u) (hl : ∀ m, bx (RM (D 117)) m → A m → le4 u m) : ∃ D', g_M_spreads F D = some D' ∧ (∀ c, c ≠ 124 → c ≠ 125 → c ≠ 128 → D' c = D c) ∧ CBE D' (fun m => le4 u m) := by
  obtain ⟨B, b1, b2, b3⟩ := M_bSaw_s (F := F) (by omega) D
  have eB : B 117 = D 117 := b2 117 (by decide) (by decide)
  have hB128 : B 128 = D 128 := b2 128 (by decide) (by decide)
  unfold g_M_spreads
  rw [b1, ob_some]
  have tb := tot_b hW
  have h4 := wf_P4 hW
  -- like sawings are alike
  have hA2 : ∀ m, bx (RM (D 117)) m → (∀ p, p < 4 → u p = m p) → A m := fun m hm e => by
    obtain ⟨b, q1, q2⟩ := hA m hm
    obtain ⟨b', q3, q4⟩ := hA u hu
    rw [cd_c e, q1] at q3
    exact q2.mp ((b01_inj q3).trans (q4.mpr hAu))
  unfold CBE at hA
  generalize hw : D 117 = w at hA hu hl hW tb h4 eB hA2
  obtain ⟨r, r1, r2, r3⟩ := lp (fun c (s : mx_D) => c < tot (RM w) ∧ (∀ k, k ≠ 125 → k ≠ 128 → s k = B k) ∧ ∃ d, cod (RM w) d = c ∧ SW s d ∧ ∀ m, bx (RM w) m → ∃ b, s 128 (cd m) = b01 b ∧ (cod (RM w) m < c → (b = true ↔ le4 u m)) ∧ (c ≤ cod (RM w) m → (b = true ↔ A m))) (fun (r : mx_D) => (∀ k, k ≠ 125 → k ≠ 128 → r k = B k) ∧ ∀ m, bx (RM w) m → ∃ b, r 128 (cd m) = b01 b ∧ (b = true ↔ le4 u m)) (fun f _ s => g_M_spreads_4 F f s) (tot (RM w)) (fun f c s hc hI => by
    obtain ⟨-, i1, d, rfl, i2, i3⟩ := hI
    have e117 : s 117 = w := (i1 117 (by decide) (by decide)).trans eB
    have hWs : WF (s 117) := by rw [e117]; exact hW
    have hbx : bx (RM w) d := by have := i2.1; rw [e117] at this; exact this
    have hcd := cd_b hW hbx
    obtain ⟨b0, j1, -, j3⟩ := i3 d hbx
    have j4 := j3 (Nat.le_refl _)
    -- the pews one by one
    have inner : ∀ k p f' (b : Bool), p + k = nP w → k < f' → (b = true → le4 u d) → (b = false → ¬ A d ∧ ∀ q, q < p → 0 < d q → ¬ le4 u (dwn d q)) → ∃ b', g_M_spreads_16 F (g_M_spreads_4 F f) f' (b01 b) (nI p) s = b_M_spreads_68 F (g_M_spreads_4 F f) (b01 b') s ∧ (b' = true ↔ le4 u d) := by
      intro k
      induction k with
      | zero =>
        intro p f' b hp hf h1 h2
        obtain ⟨f', rfl⟩ : ∃ g, f' = g + 1 := ⟨f' - 1, by omega⟩
        refine ⟨b, ?_, ⟨h1, fun hle => ?_⟩⟩
        · rw [show g_M_spreads_16 F (g_M_spreads_4 F f) (f' + 1) = b_M_spreads_16 F (g_M_spreads_4 F f) (g_M_spreads_16 F (g_M_spreads_4 F f) f') from rfl]
          unfold b_M_spreads_16
          rw [e117, wf_P hW, if_pos (nI_le (by omega) (by omega))]
        · cases b
          · exfalso
            obtain ⟨q1, q2⟩ := h2 rfl
            by_cases e : ∀ p, p < 4 → u p = d p
            · exact q1 (hA2 d hbx e)
            · obtain ⟨z, hz⟩ : ∃ z, z < 4 ∧ u z ≠ d z := by
                rcases Nat.lt_or_ge 0 1 with _ | _
                · by_cases e0 : u 0 = d 0
                  · by_cases e1 : u 1 = d 1
                    · by_cases e2 : u 2 = d 2
                      · by_cases e3 : u 3 = d 3
                        · exfalso
                          apply e
                          intro p hp
                          rcases (show p = 0 ∨ p = 1 ∨ p = 2 ∨ p = 3 by omega) with rfl | rfl | rfl | rfl
                          · exact e0
                          · exact e1
                          · exact e2
                          · exact e3
                        · exact ⟨3, by decide, e3⟩
                      · exact ⟨2, by decide, e2⟩
                    · exact ⟨1, by decide, e1⟩
                  · exact ⟨0, by decide, e0⟩
                · omega
              have lz := hle z hz.1
              have zP : z < nP w := by
                rcases Nat.lt_or_ge z (nP w) with y | y
                · exact y
                · have := hbx z hz.1
                  rw [RM_0 y] at this
                  omega
              refine q2 z (by omega) (by omega) (fun q hq => ?_)
              unfold dwn
              by_cases y : q = z
              · subst y
                rw [if_pos rfl]
                omega
              · rw [if_neg y]
                exact hle q hq
          · rfl
      | succ k ih =>
        intro p f' b hp hf h1 h2
        obtain ⟨f', rfl⟩ : ∃ g, f' = g + 1 := ⟨f' - 1, by omega⟩
        rw [show g_M_spreads_16 F (g_M_spreads_4 F f) (f' + 1) = b_M_spreads_16 F (g_M_spreads_4 F f) (g_M_spreads_16 F (g_M_spreads_4 F f) f') from rfl]
        unfold b_M_spreads_16
        rw [e117, wf_P hW, if_neg (nI_ge (by omega) (by omega))]
        cases b
        · obtain ⟨q1, q2⟩ := h2 rfl
          have hd9 := bx_9 hW hbx
          have dp9 : d p ≤ 9 := by
            have := hbx p (by omega)
            have := RM_9 hW (p := p) (by omega)
            omega
          rw [if_pos zb0, rk_in (show p < 4 by omega) (by decide), nI_clamp (by omega), i2.2.2 p (by omega), nI_add]
          by_cases c0 : d p = 0
          · rw [if_pos (by rw [c0]; decide)]
            exact ih (p + 1) f' false (by omega) (by omega) (fun e => absurd e (by decide)) (fun _ => ⟨q1, fun q hq hd => by
              by_cases y : q = p
              · subst y
                omega
              · exact q2 q (by omega) hd⟩)
          · have hpos : 0 < d p := Nat.pos_of_ne_zero c0
            obtain ⟨u1, u2⟩ := cd_dwn (show p < 4 by omega) hpos
            have hbd : bx (RM w) (dwn d p) := fun q hq => by
              unfold dwn
              have := hbx q hq
              split
              · rename_i y
                subst y
                omega
              · exact this
            obtain ⟨bb, y1, y2, -⟩ := i3 (dwn d p) hbd
            have y3 := y2 (cod_dwn (RM w) (show p < 4 by omega) hpos)
            rw [if_neg (nI_nle hpos (by omega)), M_code_s (by omega) hWs i2, ob_some, M_unit_s (by omega) (show p < 4 by omega), ob_some, nI_subN u1, ← u2, rk_in (cd_b hW hbd) (by decide), nI_clamp (by have := cd_b hW hbd; omega), y1]
            cases bb
            · rw [if_pos zb0]
              exact ih (p + 1) f' false (by omega) (by omega) (fun e => absurd e (by decide)) (fun _ => ⟨q1, fun q hq hd hle => by
                by_cases y : q = p
                · subst y
                  exact absurd (y3.mpr hle) (by decide)
                · exact q2 q (by omega) hd hle⟩)
            · rw [if_neg zb1]
              exact ih (p + 1) f' true (by omega) (by omega) (fun _ q hq => by
                have := (y3.mp rfl) q hq
                unfold dwn at this
                split at this
                · rename_i y
                  subst y
                  omega
                · exact this) (fun e => absurd e (by decide))
        · rw [if_neg zb1]
          refine ⟨true, rfl, ⟨h1, fun _ => rfl⟩⟩
    obtain ⟨b', z1, z2⟩ := inner (nP w) 0 F b0 (by omega) (by omega) (fun e => hl d hbx (j4.mp e)) (fun e => ⟨fun hAd => absurd (j4.mpr hAd) (by rw [e]; decide), fun q hq => absurd hq (Nat.not_lt_zero q)⟩)
    show (∃ r, g_M_spreads_4 F (f + 1) s = some r ∧ _) ∨ ∃ s', _ ∧ g_M_spreads_4 F (f + 1) s = g_M_spreads_4 F f s'
    rw [s_M_spreads_4]
    unfold b_M_spreads_4
    have z1' : g_M_spreads_16 F (g_M_spreads_4 F f) F (b01 b0) (nI 0) s = b_M_spreads_68 F (g_M_spreads_4 F f) (b01 b') s := z1
    rw [M_code_s (by omega) hWs i2, ob_some, rk_in hcd (by decide), nI_clamp (by omega), j1, z1']
    unfold b_M_spreads_68
    rw [M_code_s (by omega) hWs i2, ob_some, rk_in hcd (by decide), nI_clamp (by omega), nar_b]
    have hX : ∀ k, k ≠ 128 → sD s 128 (cd d) (b01 b') k = s k := fun k hk => sD_nr _ _ _ hk
    have x1 : sD s 128 (cd d) (b01 b') 128 (cd d) = b01 b' := sD_eq _ _ _ _
    have xo : ∀ j, j ≠ cd d → sD s 128 (cd d) (b01 b') 128 j = s 128 j := fun j hj => sD_nj _ _ _ hj
    generalize sD s 128 (cd d) (b01 b') = X at hX x1 xo ⊢
    have eX : X 117 = w := (hX 117 (by decide)).trans e117
    have dX : SW X d := SW_of i2 (hX 117 (by decide)) (hX 124 (by decide)) (hX 125 (by decide))
    obtain ⟨N, d', n1, n2, n3⟩ := M_next_s (F := F) (by omega) (show WF (X 117) by rw [eX]; exact hW) dX
    rw [eX] at n1 n3
    rw [n1, ob_some]
    have fN : ∀ k, k ≠ 125 → k ≠ 128 → N k = B k := fun k q1 q2 => by rw [n2 k q1, hX k q2, i1 k q1 q2]
    have all : ∀ m, bx (RM w) m → ∃ b, N 128 (cd m) = b01 b ∧ (cod (RM w) m < cod (RM w) d + 1 → (b = true ↔ le4 u m)) ∧ (cod (RM w) d + 1 ≤ cod (RM w) m → (b = true ↔ A m)) := fun m hm => by
      rw [n2 128 (by decide)]
      by_cases e : cd m = cd d
      · have e4 := cd_inj hW hm hbx e
        have ec := cod_c (R := RM w) e4
        rw [e, x1]
        refine ⟨b', rfl, fun _ => z2.trans ⟨fun h q hq => by rw [e4 q hq]; exact h q hq, fun h q hq => by rw [← e4 q hq]; exact h q hq⟩, fun h => by omega⟩
      · rw [xo _ e]
        obtain ⟨b, p1, p2, p3⟩ := i3 m hm
        refine ⟨b, p1, fun h => p2 ?_, fun h => p3 (by omega)⟩
        rcases Nat.lt_or_ge (cod (RM w) m) (cod (RM w) d) with y | y
        · exact y
        · exact absurd (cd_c (cod_inj hm hbx (by omega))) e
    by_cases c : cod (RM w) d + 1 < tot (RM w)
    · refine Or.inr ⟨N, ⟨c, fN, d', (n3 c).2, (n3 c).1, all⟩, ?_⟩
      rw [decide_eq_true c, if_neg zb1]
    · refine Or.inl ⟨N, by rw [decide_eq_false c, if_pos zb0], fN, fun m hm => ?_⟩
      obtain ⟨b, p1, p2, -⟩ := all m hm
      have := cod_lt hm
      exact ⟨b, p1, p2 (by omega)⟩) (fun f s hI => absurd hI.1 (Nat.lt_irrefl _)) (tot (RM w)) F 0 B (by omega) (by omega) ⟨tb.1, fun _ _ _ => rfl, fun _ => 0, by unfold cod; simp, b3, fun m hm => by
      obtain ⟨b, p1, p2⟩ := hA m hm
      exact ⟨b, by rw [hB128]; exact p1, fun h => absurd h (Nat.not_lt_zero _), fun _ => p2⟩⟩
  refine ⟨r, r1, fun c q1 q2 q3 => by rw [r2 c q2 q3, b2 c q1 q2], ?_⟩
  unfold CBE
  rw [show r 117 = w from (r2 117 (by decide) (by decide)).trans eB]
  exact r3
end PM
