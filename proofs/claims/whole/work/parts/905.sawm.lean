/-! ===== the reference's sawings: the best, how many, the least level; can it be level ===== -/
section SM
variable {D D0 : mx_D} {w : W_} {F : Nat}
theorem mix_dm {a b r : Nat} (h : b < r) : (a * r + b) / r = a ∧ (a * r + b) % r = b := by
  have hr : 0 < r := by omega
  rw [Nat.mul_comm]
  exact ⟨by rw [Nat.mul_add_div hr, Nat.div_eq_of_lt h, Nat.add_zero], by rw [Nat.mul_add_mod, Nat.mod_eq_of_lt h]⟩
/-- the sawing of a number -/
def vec (R : Nat → Nat) (c : Nat) (p : Nat) : Nat := if p = 3 then c % (R 3 + 1) else if p = 2 then c / (R 3 + 1) % (R 2 + 1) else if p = 1 then c / (R 3 + 1) / (R 2 + 1) % (R 1 + 1) else c / (R 3 + 1) / (R 2 + 1) / (R 1 + 1)
theorem vec_cod {R d : Nat → Nat} (h : bx R d) : ∀ p, p < 4 → vec R (cod R d) p = d p := by
  obtain ⟨a1, a2⟩ := mix_dm (a := (d 0 * (R 1 + 1) + d 1) * (R 2 + 1) + d 2) (Nat.lt_succ_of_le (h 3 (by decide)))
  obtain ⟨b1, b2⟩ := mix_dm (a := d 0 * (R 1 + 1) + d 1) (Nat.lt_succ_of_le (h 2 (by decide)))
  obtain ⟨c1, c2⟩ := mix_dm (a := d 0) (Nat.lt_succ_of_le (h 1 (by decide)))
  intro p hp
  unfold vec cod
  rcases (show p = 0 ∨ p = 1 ∨ p = 2 ∨ p = 3 by omega) with rfl | rfl | rfl | rfl
  · rw [if_neg (by decide), if_neg (by decide), if_neg (by decide), a1, b1, c1]
  · rw [if_neg (by decide), if_neg (by decide), if_pos rfl, a1, b1, c2]
  · rw [if_neg (by decide), if_pos rfl, a1, b2]
  · rw [if_pos rfl, a2]
theorem apa_c {hs hs' : Nat → Int} {pm : Nat → Nat} {b : Bool} {m : Nat} (h : ∀ x, m.testBit x = true → hs x = hs' x) : apa hs pm b m = apa hs' pm b m := by
  unfold apa
  rw [spr_c h]
  congr 1
  refine fo_c 4 (fun p s _ => ?_)
  rw [spr_c (fun x hx => h x (by rw [Nat.testBit_and, Bool.and_eq_true] at hx; exact hx.1))]
/-- how far from level under a sawing -/
def offN (w : W_) (hs : Nat → Int) (S : Nat) (d : Nat → Nat) : Int := apa (hsm w hs (fun p => (d p : Int))) (pM w) (ba w) S
theorem offN_c (hW : WF w) {hs : Nat → Int} {S : Nat} (hS : sub S (nA w)) {d e : Nat → Nat} (h : ∀ p, p < 4 → d p = e p) : offN w hs S d = offN w hs S e := by
  refine apa_c (fun x hx => ?_)
  unfold hsm
  cases hs' : st w x
  · rw [if_neg (by decide), if_neg (by decide)]
  · have := (wf_sit hW (hS x hx) hs').2.1
    have h4 := wf_P4 hW
    rw [if_pos rfl, if_pos rfl]
    show hs x - (d (pw w x) : Int) = hs x - (e (pw w x) : Int)
    rw [h (pw w x) (by omega)]
theorem hsm_b (hW : WF w) {hs : Nat → Int} (hb : ∀ x, x < nA w → -9000 < hs x ∧ hs x < 9000) {d : Nat → Nat} (h : bx (RM w) d) : ∀ x, x < nA w → -10000 < hsm w hs (fun p => (d p : Int)) x ∧ hsm w hs (fun p => (d p : Int)) x < 10000 := fun x hx => by
  have := hb x hx
  unfold hsm
  cases hs' : st w x
  · rw [if_neg (by decide)]
    omega
  · have h2 := (wf_sit hW hx hs').2.1
    have h4 := wf_P4 hW
    have h3 := h (pw w x) (by omega)
    have h5 := RM_9 hW (p := pw w x) (by omega)
    rw [if_pos rfl]
    show -10000 < hs x - (d (pw w x) : Int) ∧ hs x - (d (pw w x) : Int) < 10000
    omega
theorem offN_b (hW : WF w) {hs : Nat → Int} (hb : ∀ x, x < nA w → -9000 < hs x ∧ hs x < 9000) {S : Nat} (hS : sub S (nA w)) {d : Nat → Nat} (h : bx (RM w) d) : 0 ≤ offN w hs S d ∧ offN w hs S d ≤ 20000 :=
  apa_b (wf_A8 hW) hS (hsm_b hW hb h)
/-- how many of the first c are level -/
def cntN (w : W_) (hs : Nat → Int) (S : Nat) (L : Int) (c : Nat) : Nat := fo (fun i s => s + (if offN w hs S (vec (RM w) i) ≤ L then 1 else 0)) 0 c
/-- what the first c sawings have told -/
def SA (w : W_) (hs : Nat → Int) (S : Nat) (L : Int) (D0 : mx_D) (c : Nat) (s : mx_D) : Prop :=
  ((∀ k, k ≠ 116 → k ≠ 123 → k ≠ 124 → k ≠ 125 → k ≠ 126 → s k = D0 k) ∧ (∀ j, j ≠ 19 → j ≠ 20 → j ≠ 21 → s 116 j = D0 116 j)) ∧
  ((s 116 19 = -1 ∧ ∀ m, bx (RM w) m → cod (RM w) m < c → ¬ offN w hs S m ≤ L) ∨ (∃ b, bx (RM w) b ∧ offN w hs S b ≤ L ∧ s 116 19 = nI (su b) ∧ (∀ q, q < 4 → s 126 q = nI (b q)) ∧ ∀ m, bx (RM w) m → cod (RM w) m < c → offN w hs S m ≤ L → su b ≤ su m)) ∧
  (∃ l, s 116 21 = iI l ∧ (0 ≤ l ∧ l ≤ 1000000) ∧ (∀ m, bx (RM w) m → cod (RM w) m < c → l ≤ offN w hs S m) ∧ ((l = 1000000 ∧ c = 0) ∨ ∃ m, bx (RM w) m ∧ offN w hs S m = l)) ∧
  s 116 20 = nI (cntN w hs S L c)
theorem SA_of {hs : Nat → Int} {S c : Nat} {L : Int} {s s' : mx_D} (h : SA w hs S L D0 c s) (e : ∀ k, k ≠ 123 → k ≠ 125 → s' k = s k) : SA w hs S L D0 c s' := by
  obtain ⟨⟨h1, h2⟩, h3, h4, h5⟩ := h
  have e116 := e 116 (by decide) (by decide)
  have e126 := e 126 (by decide) (by decide)
  refine ⟨⟨fun k q1 q2 q3 q4 q5 => by rw [e k q2 q4]; exact h1 k q1 q2 q3 q4 q5, fun j q1 q2 q3 => by rw [e116]; exact h2 j q1 q2 q3⟩, ?_, ?_, ?_⟩
  · rw [e116, e126]
    exact h3
  · rw [e116]
    exact h4
  · rw [e116]
    exact h5
theorem su_36 (hW : WF w) {d : Nat → Nat} (h : bx (RM w) d) : su d ≤ 36 := by
  have h0 := h 0 (by decide)
  have h1 := h 1 (by decide)
  have h2 := h 2 (by decide)
  have h3 := h 3 (by decide)
  have r0 := RM_9 hW (p := 0) (by decide)
  have r1 := RM_9 hW (p := 1) (by decide)
  have r2 := RM_9 hW (p := 2) (by decide)
  have r3 := RM_9 hW (p := 3) (by decide)
  unfold su
  omega
theorem tot_b (hW : WF w) : 0 < tot (RM w) ∧ tot (RM w) ≤ 10000 := by
  have r0 := RM_9 hW (p := 0) (by decide)
  have r1 := RM_9 hW (p := 1) (by decide)
  have r2 := RM_9 hW (p := 2) (by decide)
  have r3 := RM_9 hW (p := 3) (by decide)
  unfold tot
  refine ⟨Nat.mul_pos (Nat.mul_pos (Nat.mul_pos (Nat.succ_pos _) (Nat.succ_pos _)) (Nat.succ_pos _)) (Nat.succ_pos _), ?_⟩
  have a1 := Nat.mul_le_mul (show RM w 0 + 1 ≤ 10 by omega) (show RM w 1 + 1 ≤ 10 by omega)
  have a2 := Nat.mul_le_mul a1 (show RM w 2 + 1 ≤ 10 by omega)
  exact Nat.mul_le_mul a2 (show RM w 3 + 1 ≤ 10 by omega)
theorem cnt_le (w : W_) (hs : Nat → Int) (S : Nat) (L : Int) : ∀ c, cntN w hs S L c ≤ c
  | 0 => Nat.le_refl 0
  | c + 1 => by
    have := cnt_le w hs S L c
    have e : cntN w hs S L (c + 1) = cntN w hs S L c + (if offN w hs S (vec (RM w) c) ≤ L then 1 else 0) := rfl
    rw [e]
    split <;> omega
/-- one more is looked at -/
theorem SA_step (hF : 100 ≤ F) (hW : WF w) {hs : Nat → Int} (hb : ∀ x, x < nA w → -9000 < hs x ∧ hs x < 9000) {S : Nat} (hS : sub S (nA w)) {s : mx_D} (e117 : s 117 = w) (h127 : ∀ x, x < nA w → s 127 x = iI (hs x)) {d : Nat → Nat} (hd : SW s d) (hA : SA w hs S (nV w) D0 (cod (RM w) d) s) (f : Nat) : ∃ T, g_M_sawAll_26 F (f + 1) (nI S) s = Option.bind (g_M_nextSawing F T) (fun r => if r.1 = 0 then some r.2 else g_M_sawAll_26 F f (nI S) r.2) ∧ SW T d ∧ T 117 = w ∧ T 127 = s 127 ∧ SA w hs S (nV w) D0 (cod (RM w) d + 1) T := by
  have hv := wf_V30 hW
  have hbx : bx (RM w) d := by have := hd.1; rw [e117] at this; exact this
  have hWs : WF (s 117) := by rw [e117]; exact hW
  have ht := tot_b hW
  have hcl := cod_lt hbx
  obtain ⟨A, a1, a2, a3⟩ := M_layMore_s hF hWs hd (hs := hs) (by rw [e117]; exact h127)
  have eA : A 117 = w := (a2 117 (by decide)).trans e117
  have hWA : WF (A 117) := by rw [eA]; exact hW
  have ul := M_unlevel_s hF hWA (hs := hsm w hs (fun p => (d p : Int))) (by rw [eA, ← e117]; exact a3) (by rw [eA]; exact hsm_b hW hb hbx) (m := S) (by rw [eA]; exact hS)
  rw [eA] at ul
  have ob := offN_b hW hb hS hbx
  have eo : apa (hsm w hs (fun p => (d p : Int))) (pM w) (ba w) S = offN w hs S d := rfl
  rw [eo] at ul
  have hSA := SA_of hA (fun k q1 _ => a2 k q1)
  have hdA : SW A d := SW_of hd (a2 117 (by decide)) (a2 124 (by decide)) (a2 125 (by decide))
  obtain ⟨⟨i1, i2⟩, i3, ⟨l, i4, i5, i6, i7⟩, i8⟩ := hSA
  -- a sawing of one of the first numbers, or this one
  have new : ∀ m, bx (RM w) m → cod (RM w) m < cod (RM w) d + 1 → cod (RM w) m < cod (RM w) d ∨ ∀ p, p < 4 → m p = d p := fun m hm hc => by
    rcases Nat.lt_or_ge (cod (RM w) m) (cod (RM w) d) with q | q
    · exact Or.inl q
    · exact Or.inr (cod_inj hm hbx (by omega))
  have elu : imn (A 116 21) (iI (offN w hs S d)) = iI (min l (offN w hs S d)) := by
    rw [i4, imn_iI (by omega) (by omega) (by omega) (by omega)]
  have lu : ∀ T : mx_D, T 116 21 = iI (min l (offN w hs S d)) → ∃ l, T 116 21 = iI l ∧ (0 ≤ l ∧ l ≤ 1000000) ∧ (∀ m, bx (RM w) m → cod (RM w) m < cod (RM w) d + 1 → l ≤ offN w hs S m) ∧ ((l = 1000000 ∧ cod (RM w) d + 1 = 0) ∨ ∃ m, bx (RM w) m ∧ offN w hs S m = l) := fun T hT => by
    refine ⟨_, hT, ⟨by omega, by omega⟩, fun m hm hc => ?_, Or.inr ?_⟩
    · rcases new m hm hc with q | q
      · have := i6 m hm q
        omega
      · rw [offN_c hW hS q]
        omega
    · rcases Int.le_total l (offN w hs S d) with q | q
      · rcases i7 with ⟨z, -⟩ | ⟨m, m1, m2⟩
        · refine ⟨d, hbx, ?_⟩
          omega
        · exact ⟨m, m1, by omega⟩
      · exact ⟨d, hbx, by omega⟩
  have ev := offN_c hW (hs := hs) hS (vec_cod hbx)
  have ec : cntN w hs S (nV w) (cod (RM w) d + 1) = cntN w hs S (nV w) (cod (RM w) d) + (if offN w hs S d ≤ nV w then 1 else 0) := by
    rw [← ev]
    rfl
  have hcn := cnt_le w hs S (nV w) (cod (RM w) d)
  rw [show g_M_sawAll_26 F (f + 1) = b_M_sawAll_26 F (g_M_sawAll_26 F f) from s_M_sawAll_26 F f]
  unfold b_M_sawAll_26
  rw [a1, ob_some, ul, ob_some, elu, sD_ne _ _ _ _ (show 117 ≠ 116 by decide), eA, wf_V hW]
  have cmp : iI (offN w hs S d) ≤ nI (nV w) ↔ offN w hs S d ≤ nV w := by
    rw [iI_nI, iI_le (by omega) (by omega) (by omega) (by omega)]
  by_cases c : offN w hs S d ≤ nV w
  · rw [if_pos (cmp.mpr c)]
    have hX : ∀ k, k ≠ 116 → sD (sD A 116 21 (iI (min l (offN w hs S d)))) 116 20 (sD A 116 21 (iI (min l (offN w hs S d))) 116 20 + nI 1) k = A k := fun k hk => by rw [sD_nr _ _ _ hk, sD_nr _ _ _ hk]
    have x19 : sD (sD A 116 21 (iI (min l (offN w hs S d)))) 116 20 (sD A 116 21 (iI (min l (offN w hs S d))) 116 20 + nI 1) 116 19 = A 116 19 := by rw [sD_nj _ _ _ (by decide), sD_nj _ _ _ (by decide)]
    have x20 : sD (sD A 116 21 (iI (min l (offN w hs S d)))) 116 20 (sD A 116 21 (iI (min l (offN w hs S d))) 116 20 + nI 1) 116 20 = nI (cntN w hs S (nV w) (cod (RM w) d) + 1) := by rw [sD_eq, sD_nj _ _ _ (by decide), i8, nI_add]
    have x21 : sD (sD A 116 21 (iI (min l (offN w hs S d)))) 116 20 (sD A 116 21 (iI (min l (offN w hs S d))) 116 20 + nI 1) 116 21 = iI (min l (offN w hs S d)) := by rw [sD_nj _ _ _ (by decide), sD_eq]
    have xj : ∀ j, j ≠ 20 → j ≠ 21 → sD (sD A 116 21 (iI (min l (offN w hs S d)))) 116 20 (sD A 116 21 (iI (min l (offN w hs S d))) 116 20 + nI 1) 116 j = A 116 j := fun j q1 q2 => by rw [sD_nj _ _ _ q1, sD_nj _ _ _ q2]
    generalize sD (sD A 116 21 (iI (min l (offN w hs S d)))) 116 20 (sD A 116 21 (iI (min l (offN w hs S d))) 116 20 + nI 1) = X at hX x19 x20 x21 xj ⊢
    have hdX : SW X d := SW_of hdA (hX 117 (by decide)) (hX 124 (by decide)) (hX 125 (by decide))
    have hWX : WF (X 117) := by rw [hX 117 (by decide)]; exact hWA
    obtain ⟨K, k1, k2, k3, k4⟩ := M_keep_s hF hWX hdX
    rw [k1, ob_some]
    have hKf : (∀ k, k ≠ 116 → k ≠ 126 → K k = A k) := fun k q1 q2 => by rw [k2 k q1 q2, hX k q1]
    refine ⟨K, rfl, SW_of hdX (k2 117 (by decide) (by decide)) (k2 124 (by decide) (by decide)) (k2 125 (by decide) (by decide)), by rw [hKf 117 (by decide) (by decide)]; exact eA, by rw [hKf 127 (by decide) (by decide), a2 127 (by decide)], ⟨fun k q1 q2 q3 q4 q5 => by rw [hKf k q1 q5]; exact i1 k q1 q2 q3 q4 q5, fun j q1 q2 q3 => by rw [k3 j q1, xj j q2 q3]; exact i2 j q1 q2 q3⟩, ?_, lu K (by rw [k3 21 (by decide), x21]), by rw [k3 20 (by decide), x20, ec, if_pos c]⟩
    have hs36 := su_36 hW hbx
    rw [x19] at k4
    rcases i3 with ⟨b1, b2⟩ | ⟨b, b0, b1, b2, b3, b4⟩
    · rw [if_pos (Or.inl b1)] at k4
      refine Or.inr ⟨d, hbx, c, k4.1, k4.2, fun m hm hc ho => ?_⟩
      rcases new m hm hc with q | q
      · exact absurd ho (b2 m hm q)
      · unfold su
        rw [q 0 (by decide), q 1 (by decide), q 2 (by decide), q 3 (by decide)]
        exact Nat.le_refl _
    · have hb36 := su_36 hW b0
      have b1' : ¬ A 116 19 = -1 := by rw [b2]; exact nI_m1 (by omega)
      by_cases z : su d < su b
      · rw [if_pos (Or.inr (by rw [b2]; exact nI_lt z (by omega)))] at k4
        refine Or.inr ⟨d, hbx, c, k4.1, k4.2, fun m hm hc ho => ?_⟩
        rcases new m hm hc with q | q
        · have := b4 m hm q ho
          omega
        · unfold su
          rw [q 0 (by decide), q 1 (by decide), q 2 (by decide), q 3 (by decide)]
          exact Nat.le_refl _
      · rw [if_neg (fun e => e.elim b1' (fun e => by rw [b2] at e; exact nI_nlt (by omega) (by omega) e))] at k4
        subst k4
        refine Or.inr ⟨b, b0, b1, by rw [x19]; exact b2, fun q hq => by rw [hX 126 (by decide)]; exact b3 q hq, fun m hm hc ho => ?_⟩
        rcases new m hm hc with q | q
        · exact b4 m hm q ho
        · unfold su at z ⊢
          rw [q 0 (by decide), q 1 (by decide), q 2 (by decide), q 3 (by decide)]
          omega
  · rw [if_neg (fun q => c (cmp.mp q))]
    have hX : ∀ k, k ≠ 116 → sD A 116 21 (iI (min l (offN w hs S d))) k = A k := fun k hk => by rw [sD_nr _ _ _ hk]
    have xj : ∀ j, j ≠ 21 → sD A 116 21 (iI (min l (offN w hs S d))) 116 j = A 116 j := fun j q2 => by rw [sD_nj _ _ _ q2]
    have x21 : sD A 116 21 (iI (min l (offN w hs S d))) 116 21 = iI (min l (offN w hs S d)) := sD_eq _ _ _ _
    generalize sD A 116 21 (iI (min l (offN w hs S d))) = X at hX x21 xj ⊢
    have ncnd : ∀ m, bx (RM w) m → cod (RM w) m < cod (RM w) d + 1 → offN w hs S m ≤ nV w → cod (RM w) m < cod (RM w) d := fun m hm hc ho => by
      rcases new m hm hc with q | q
      · exact q
      · rw [offN_c hW hS q] at ho
        exact absurd ho c
    refine ⟨X, rfl, SW_of hdA (hX 117 (by decide)) (hX 124 (by decide)) (hX 125 (by decide)), by rw [hX 117 (by decide)]; exact eA, by rw [hX 127 (by decide), a2 127 (by decide)], ⟨fun k q1 q2 q3 q4 q5 => by rw [hX k q1]; exact i1 k q1 q2 q3 q4 q5, fun j q1 q2 q3 => by rw [xj j q3]; exact i2 j q1 q2 q3⟩, ?_, lu X x21, by rw [xj 20 (by decide), i8, ec, if_neg c, Nat.add_zero]⟩
    rcases i3 with ⟨b1, b2⟩ | ⟨b, b0, b1, b2, b3, b4⟩
    · exact Or.inl ⟨by rw [xj 19 (by decide)]; exact b1, fun m hm hc ho => b2 m hm (ncnd m hm hc ho) ho⟩
    · exact Or.inr ⟨b, b0, b1, by rw [xj 19 (by decide)]; exact b2, fun q hq => by rw [hX 126 (by decide)]; exact b3 q hq, fun m hm hc ho => b4 m hm (ncnd m hm hc ho) ho⟩
/-- all sawings looked at -/
theorem M_sawAll_s (hF : 20000 ≤ F) (hW : WF (D 117)) {y : Nat} (hy : y ≤ 30) {S : Nat} (hS : sub S (nA (D 117))) : ∃ D', g_M_sawAll F (nI y) (nI S) D = some D' ∧ FM D D' ∧ SA (D 117) (hi (D 117) y) S (nV (D 117)) D' (tot (RM (D 117))) D' := by
  have hb : ∀ x, x < nA (D 117) → -9000 < hi (D 117) y x ∧ hi (D 117) y x < 9000 := fun x hx => by
    have := hi_b hW hx hy
    omega
  unfold g_M_sawAll
  have hG : ∀ c, c ≠ 116 → sD (sD (sD D 116 19 (-1)) 116 20 (nI 0)) 116 21 (nI 1000000) c = D c := fun c hc => by rw [sD_nr _ _ _ hc, sD_nr _ _ _ hc, sD_nr _ _ _ hc]
  have g19 : sD (sD (sD D 116 19 (-1)) 116 20 (nI 0)) 116 21 (nI 1000000) 116 19 = -1 := by rw [sD_nj _ _ _ (by decide), sD_nj _ _ _ (by decide), sD_eq]
  have g20 : sD (sD (sD D 116 19 (-1)) 116 20 (nI 0)) 116 21 (nI 1000000) 116 20 = nI 0 := by rw [sD_nj _ _ _ (by decide), sD_eq]
  have g21 : sD (sD (sD D 116 19 (-1)) 116 20 (nI 0)) 116 21 (nI 1000000) 116 21 = nI 1000000 := sD_eq _ _ _ _
  have gj : ∀ j, j ≠ 19 → j ≠ 20 → j ≠ 21 → sD (sD (sD D 116 19 (-1)) 116 20 (nI 0)) 116 21 (nI 1000000) 116 j = D 116 j := fun j q1 q2 q3 => by rw [sD_nj _ _ _ q3, sD_nj _ _ _ q2, sD_nj _ _ _ q1]
  generalize sD (sD (sD D 116 19 (-1)) 116 20 (nI 0)) 116 21 (nI 1000000) = G at hG g19 g20 g21 gj ⊢
  have e117 := hG 117 (by decide)
  obtain ⟨A, a1, a2, a3⟩ := M_keepUn_s (F := F) (by omega) (show WF (G 117) by rw [e117]; exact hW) y
  obtain ⟨B, b1, b2, b3⟩ := M_bSaw_s (F := F) (by omega) A
  rw [a1, ob_some, b1, ob_some]
  have eB : B 117 = D 117 := by rw [b2 117 (by decide) (by decide), a2 117 (by decide) (by decide), e117]
  have hB : ∀ c, c ≠ 116 → c ≠ 123 → c ≠ 124 → c ≠ 125 → c ≠ 127 → B c = D c := fun c q1 q2 q3 q4 q5 => by rw [b2 c q3 q4, a2 c q2 q5, hG c q1]
  have hBj : ∀ j, B 116 j = G 116 j := fun j => by rw [b2 116 (by decide) (by decide), a2 116 (by decide) (by decide)]
  rw [e117] at a3
  have tb := tot_b hW
  generalize hw : D 117 = w at hS hb a3 eB hW tb
  have hSA0 : SA w (hi w y) S (nV w) B (cod (RM w) (fun _ => 0)) B := by
    have e0 : cod (RM w) (fun _ => 0) = 0 := by unfold cod; simp
    rw [e0]
    refine ⟨⟨fun _ _ _ _ _ _ => rfl, fun _ _ _ _ => rfl⟩, Or.inl ⟨by rw [hBj]; exact g19, fun m _ hc => absurd hc (Nat.not_lt_zero _)⟩, ⟨1000000, by rw [hBj]; exact g21, by decide, fun m _ hc => absurd hc (Nat.not_lt_zero _), Or.inl ⟨rfl, rfl⟩⟩, by rw [hBj]; exact g20⟩
  obtain ⟨r, r1, r2, r3⟩ := lp (fun c (s : mx_D) => c < tot (RM w) ∧ ∃ d, cod (RM w) d = c ∧ SW s d ∧ s 117 = w ∧ (∀ x, x < nA w → s 127 x = iI (hi w y x)) ∧ SA w (hi w y) S (nV w) B c s) (fun (r : mx_D) => SA w (hi w y) S (nV w) B (tot (RM w)) r ∧ r 117 = w) (fun f _ s => g_M_sawAll_26 F f (nI S) s) (tot (RM w)) (fun f c s hc hI => by
    obtain ⟨-, d, rfl, d1, d2, d3, d4⟩ := hI
    obtain ⟨T, t1, t2, t3, t4, t5⟩ := SA_step (F := F) (by omega) hW hb hS d2 d3 d1 d4 f
    obtain ⟨N, d', n1, n2, n3⟩ := M_next_s (F := F) (by omega) (show WF (T 117) by rw [t3]; exact hW) t2
    rw [t3] at n1 n3
    have hN : N 117 = w := by rw [n2 117 (by decide)]; exact t3
    have hSN := SA_of t5 (fun k _ q2 => n2 k q2)
    show (∃ r, g_M_sawAll_26 F (f + 1) (nI S) s = some r ∧ _) ∨ ∃ s', _ ∧ g_M_sawAll_26 F (f + 1) (nI S) s = g_M_sawAll_26 F f (nI S) s'
    rw [t1, n1, ob_some]
    by_cases c : cod (RM w) d + 1 < tot (RM w)
    · refine Or.inr ⟨N, ⟨c, d', (n3 c).2, (n3 c).1, hN, fun x hx => by rw [n2 127 (by decide), t4]; exact d3 x hx, hSN⟩, ?_⟩
      rw [decide_eq_true c, if_neg (show ¬ b01 true = 0 by decide)]
    · refine Or.inl ⟨N, by rw [decide_eq_false c, if_pos (show b01 false = 0 from rfl)], ?_, hN⟩
      have : cod (RM w) d + 1 = tot (RM w) := by omega
      rw [← this]
      exact hSN) (fun f s hI => absurd hI.1 (Nat.lt_irrefl _)) (tot (RM w)) F 0 B (by omega) (by omega) ⟨tb.1, fun _ => 0, by unfold cod; simp, b3, eB, fun x hx => by rw [b2 127 (by decide) (by decide)]; exact a3 x hx, by
      have e0 : cod (RM w) (fun _ => 0) = 0 := by unfold cod; simp
      rw [e0] at hSA0
      exact hSA0⟩
  obtain ⟨⟨p1, p2⟩, p3⟩ := r2
  have fr : ∀ c, c ≠ 116 → c ≠ 123 → c ≠ 124 → c ≠ 125 → c ≠ 126 → c ≠ 127 → r c = D c := fun c q1 q2 q3 q4 q5 q6 => by rw [p1 c q1 q2 q3 q4 q5, hB c q1 q2 q3 q4 q6]
  have fj : ∀ j, j ≠ 19 → j ≠ 20 → j ≠ 21 → r 116 j = D 116 j := fun j q1 q2 q3 => by rw [p2 j q1 q2 q3, hBj, gj j q1 q2 q3]
  refine ⟨r, r1, ⟨fun c hc => fr c (by omega) (by omega) (by omega) (by omega) (by omega) (by omega), ⟨fr _ (by decide) (by decide) (by decide) (by decide) (by decide) (by decide), fr _ (by decide) (by decide) (by decide) (by decide) (by decide) (by decide), fr _ (by decide) (by decide) (by decide) (by decide) (by decide) (by decide), fr _ (by decide) (by decide) (by decide) (by decide) (by decide) (by decide), fr _ (by decide) (by decide) (by decide) (by decide) (by decide) (by decide), fr _ (by decide) (by decide) (by decide) (by decide) (by decide) (by decide)⟩, fj _ (by decide) (by decide) (by decide), fj _ (by decide) (by decide) (by decide), fj _ (by decide) (by decide) (by decide)⟩, ⟨⟨fun _ _ _ _ _ _ => rfl, fun _ _ _ _ => rfl⟩, p3⟩⟩
/-- can a set be level by some sawing -/
theorem M_canBe_s (hF : 20000 ≤ F) (hW : WF (D 117)) {hs : Nat → Int} (hb : ∀ x, x < nA (D 117) → -9000 < hs x ∧ hs x < 9000) (h127 : ∀ x, x < nA (D 117) → D 127 x = iI (hs x)) {S : Nat} (hS : sub S (nA (D 117))) : ∃ b D', g_M_canBeLevel F (nI S) D = some (b01 b, D') ∧ (∀ c, c ≠ 123 → c ≠ 124 → c ≠ 125 → D' c = D c) ∧ (b = true ↔ ∃ m, bx (RM (D 117)) m ∧ offN (D 117) hs S m ≤ nV (D 117)) := by
  unfold g_M_canBeLevel
  obtain ⟨B, b1, b2, b3⟩ := M_bSaw_s (F := F) (by omega) D
  rw [b1, ob_some]
  have eB : B 117 = D 117 := b2 117 (by decide) (by decide)
  have tb := tot_b hW
  generalize hw : D 117 = w at hS hb h127 eB hW tb
  have hv := wf_V30 hW
  obtain ⟨r, r1, r2, r3⟩ := lp (fun c (s : mx_D) => c < tot (RM w) ∧ ∃ d, cod (RM w) d = c ∧ SW s d ∧ (∀ k, k ≠ 123 → k ≠ 125 → s k = B k) ∧ ∀ m, bx (RM w) m → cod (RM w) m < c → ¬ offN w hs S m ≤ nV w) (fun (r : Int32 × mx_D) => (∀ k, k ≠ 123 → k ≠ 125 → r.2 k = B k) ∧ ∃ b, r.1 = b01 b ∧ (b = true ↔ ∃ m, bx (RM w) m ∧ offN w hs S m ≤ nV w)) (fun f _ s => g_M_canBeLevel_4 F f (nI S) s) (tot (RM w)) (fun f c s hc hI => by
    obtain ⟨-, d, rfl, d1, d2, d3⟩ := hI
    have e117 : s 117 = w := (d2 117 (by decide) (by decide)).trans eB
    have hWs : WF (s 117) := by rw [e117]; exact hW
    have hbx : bx (RM w) d := by have := d1.1; rw [e117] at this; exact this
    obtain ⟨A, a1, a2, a3⟩ := M_layMore_s (F := F) (by omega) hWs d1 (hs := hs) (by rw [e117]; exact fun x hx => by rw [d2 127 (by decide) (by decide), b2 127 (by decide) (by decide)]; exact h127 x hx)
    have eA : A 117 = w := (a2 117 (by decide)).trans e117
    have hWA : WF (A 117) := by rw [eA]; exact hW
    have ul := M_unlevel_s (F := F) (by omega) hWA (hs := hsm w hs (fun p => (d p : Int))) (by rw [eA, ← e117]; exact a3) (by rw [eA]; exact hsm_b hW hb hbx) (m := S) (by rw [eA]; exact hS)
    rw [eA] at ul
    have ob := offN_b hW hb hS hbx
    have eo : apa (hsm w hs (fun p => (d p : Int))) (pM w) (ba w) S = offN w hs S d := rfl
    rw [eo] at ul
    have cmp : nI (nV w) < iI (offN w hs S d) ↔ ¬ offN w hs S d ≤ nV w := by
      rw [iI_nI, iI_lt (by omega) (by omega) (by omega) (by omega)]
      omega
    have fA : ∀ k, k ≠ 123 → k ≠ 125 → A k = B k := fun k q1 q2 => by rw [a2 k q1, d2 k q1 q2]
    show (∃ r, g_M_canBeLevel_4 F (f + 1) (nI S) s = some r ∧ _) ∨ ∃ s', _ ∧ g_M_canBeLevel_4 F (f + 1) (nI S) s = g_M_canBeLevel_4 F f (nI S) s'
    rw [s_M_canBeLevel_4]
    unfold b_M_canBeLevel_4
    rw [a1, ob_some, ul, ob_some, eA, wf_V hW]
    by_cases c : offN w hs S d ≤ nV w
    · rw [if_neg (fun q => cmp.mp q c)]
      exact Or.inl ⟨_, rfl, fA, true, rfl, ⟨fun _ => ⟨d, hbx, c⟩, fun _ => rfl⟩⟩
    · rw [if_pos (cmp.mpr c)]
      have dA : SW A d := SW_of d1 (a2 117 (by decide)) (a2 124 (by decide)) (a2 125 (by decide))
      obtain ⟨N, d', n1, n2, n3⟩ := M_next_s (F := F) (by omega) hWA dA
      rw [eA] at n1 n3
      rw [n1, ob_some]
      have no : ∀ m, bx (RM w) m → cod (RM w) m < cod (RM w) d + 1 → ¬ offN w hs S m ≤ nV w := fun m hm hc2 => by
        rcases Nat.lt_or_ge (cod (RM w) m) (cod (RM w) d) with q | q
        · exact d3 m hm q
        · rw [offN_c hW hS (cod_inj hm hbx (by omega))]
          exact c
      have fN : ∀ k, k ≠ 123 → k ≠ 125 → N k = B k := fun k q1 q2 => by rw [n2 k q2, fA k q1 q2]
      by_cases c2 : cod (RM w) d + 1 < tot (RM w)
      · refine Or.inr ⟨N, ⟨c2, d', (n3 c2).2, (n3 c2).1, fN, no⟩, ?_⟩
        rw [decide_eq_true c2, if_neg (show ¬ b01 true = 0 by decide)]
      · refine Or.inl ⟨_, by rw [decide_eq_false c2, if_pos (show b01 false = 0 from rfl)], fN, false, rfl, ⟨fun e => absurd e (by decide), fun ⟨m, m1, m2⟩ => ?_⟩⟩
        have := cod_lt m1
        exact absurd m2 (no m m1 (by omega))) (fun f s hI => absurd hI.1 (Nat.lt_irrefl _)) (tot (RM w)) F 0 B (by omega) (by omega) ⟨tb.1, fun _ => 0, by unfold cod; simp, b3, fun _ _ _ => rfl, fun m _ hc => absurd hc (Nat.not_lt_zero _)⟩
  obtain ⟨b, p2, p3⟩ := r3
  refine ⟨b, r.2, ?_, fun c q1 q2 q3 => by rw [r2 c q1 q3, b2 c q2 q3], p3⟩
  rw [← p2]
  exact r1
end SM
