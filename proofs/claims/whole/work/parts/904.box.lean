/-! ===== sawings: all of them, one after another (the reference) ===== -/
section BX
variable {D : mx_D} {w : W_} {F : Nat}
/-- how much may be sawn of a pew yet -/
def RM (w : W_) (p : Nat) : Nat := if p < nP w then (ti w (8 + 3 * p + 1) - ti w (8 + 3 * p + 2)).toNat else 0
theorem RM_9 (hW : WF w) {p : Nat} (hp : p < 4) : RM w p ≤ 9 := by
  have := wf_up hW hp
  unfold RM
  split <;> omega
theorem RM_0 {p : Nat} (hp : nP w ≤ p) : RM w p = 0 := by
  unfold RM
  rw [if_neg (by omega)]
def bx (R d : Nat → Nat) : Prop := ∀ p, p < 4 → d p ≤ R p
def cod (R d : Nat → Nat) : Nat := ((d 0 * (R 1 + 1) + d 1) * (R 2 + 1) + d 2) * (R 3 + 1) + d 3
def tot (R : Nat → Nat) : Nat := (R 0 + 1) * (R 1 + 1) * (R 2 + 1) * (R 3 + 1)
theorem mix_lt {a b A r : Nat} (h1 : a < A) (h2 : b < r) : a * r + b < A * r := by
  have := Nat.mul_le_mul_right r (Nat.succ_le_of_lt h1)
  rw [Nat.succ_mul] at this
  omega
theorem mix_inj {a b a' b' r : Nat} (h1 : b < r) (h2 : b' < r) (h : a * r + b = a' * r + b') : a = a' ∧ b = b' := by
  have e : a = a' := by
    rcases Nat.lt_trichotomy a a' with q | q | q
    · have := mix_lt (b := b) q h1
      omega
    · exact q
    · have := mix_lt (b := b') q h2
      omega
  subst e
  exact ⟨rfl, by omega⟩
theorem cod_lt {R d : Nat → Nat} (h : bx R d) : cod R d < tot R := by
  have h0 := h 0 (by decide)
  have h1 := h 1 (by decide)
  have h2 := h 2 (by decide)
  have h3 := h 3 (by decide)
  exact mix_lt (mix_lt (mix_lt (Nat.lt_succ_of_le h0) (Nat.lt_succ_of_le h1)) (Nat.lt_succ_of_le h2)) (Nat.lt_succ_of_le h3)
theorem cod_inj {R d e : Nat → Nat} (hd : bx R d) (he : bx R e) (h : cod R d = cod R e) : ∀ p, p < 4 → d p = e p := by
  obtain ⟨a, a3⟩ := mix_inj (Nat.lt_succ_of_le (hd 3 (by decide))) (Nat.lt_succ_of_le (he 3 (by decide))) h
  obtain ⟨b, a2⟩ := mix_inj (Nat.lt_succ_of_le (hd 2 (by decide))) (Nat.lt_succ_of_le (he 2 (by decide))) a
  obtain ⟨a0, a1⟩ := mix_inj (Nat.lt_succ_of_le (hd 1 (by decide))) (Nat.lt_succ_of_le (he 1 (by decide))) b
  intro p hp
  rcases (show p = 0 ∨ p = 1 ∨ p = 2 ∨ p = 3 by omega) with rfl | rfl | rfl | rfl
  · exact a0
  · exact a1
  · exact a2
  · exact a3
theorem cod_c {R d e : Nat → Nat} (h : ∀ p, p < 4 → d p = e p) : cod R d = cod R e := by
  unfold cod
  rw [h 0 (by decide), h 1 (by decide), h 2 (by decide), h 3 (by decide)]
theorem bx_c {R d e : Nat → Nat} (h : ∀ p, p < 4 → d p = e p) (hd : bx R d) : bx R e := fun p hp => by rw [← h p hp]; exact hd p hp
/-- the next one: the last that isn't full is one more, those behind it are 0 -/
def nxf (R d : Nat → Nat) : Nat → Bool × (Nat → Nat)
  | 0 => (false, fun _ => 0)
  | p + 1 => if d p < R p then (true, fun q => if q < p then d q else if q = p then d p + 1 else 0) else nxf R d p
theorem nxf_s (R d : Nat → Nat) (p : Nat) : nxf R d (p + 1) = if d p < R p then (true, fun q => if q < p then d q else if q = p then d p + 1 else 0) else nxf R d p := rfl
theorem carry (a R : Nat) : (a + 1) * (R + 1) + 0 = (a * (R + 1) + R) + 1 := by
  rw [Nat.succ_mul]
  omega
theorem nxf_4 {R d : Nat → Nat} (h : bx R d) : (nxf R d 4).1 = decide (cod R d + 1 < tot R) ∧ ((nxf R d 4).1 = true → bx R (nxf R d 4).2 ∧ cod R (nxf R d 4).2 = cod R d + 1) := by
  have h0 := h 0 (by decide)
  have h1 := h 1 (by decide)
  have h2 := h 2 (by decide)
  have h3 := h 3 (by decide)
  have key : ∀ e : Nat → Nat, bx R e → cod R e = cod R d + 1 → true = decide (cod R d + 1 < tot R) ∧ (true = true → bx R e ∧ cod R e = cod R d + 1) := fun e q1 q2 => by
    have := cod_lt q1
    rw [q2] at this
    exact ⟨(decide_eq_true this).symm, fun _ => ⟨q1, q2⟩⟩
  have m4 : ∀ {P : Nat → Prop}, P 0 → P 1 → P 2 → P 3 → ∀ p, p < 4 → P p := fun a0 a1 a2 a3 p hp => by
    rcases (show p = 0 ∨ p = 1 ∨ p = 2 ∨ p = 3 by omega) with rfl | rfl | rfl | rfl
    · exact a0
    · exact a1
    · exact a2
    · exact a3
  rw [nxf_s]
  by_cases c3 : d 3 < R 3
  · rw [if_pos c3]
    refine key _ (m4 h0 h1 h2 ?_) ?_
    · exact c3
    · show ((d 0 * (R 1 + 1) + d 1) * (R 2 + 1) + d 2) * (R 3 + 1) + (d 3 + 1) = cod R d + 1
      unfold cod
      omega
  · have e3 : d 3 = R 3 := by omega
    rw [if_neg c3, nxf_s]
    by_cases c2 : d 2 < R 2
    · rw [if_pos c2]
      refine key _ (m4 h0 h1 ?_ (Nat.zero_le _)) ?_
      · exact c2
      · show ((d 0 * (R 1 + 1) + d 1) * (R 2 + 1) + (d 2 + 1)) * (R 3 + 1) + 0 = cod R d + 1
        unfold cod
        rw [← Nat.add_assoc, carry, e3]
    · have e2 : d 2 = R 2 := by omega
      rw [if_neg c2, nxf_s]
      by_cases c1 : d 1 < R 1
      · rw [if_pos c1]
        refine key _ (m4 h0 ?_ (Nat.zero_le _) (Nat.zero_le _)) ?_
        · exact c1
        · show ((d 0 * (R 1 + 1) + (d 1 + 1)) * (R 2 + 1) + 0) * (R 3 + 1) + 0 = cod R d + 1
          unfold cod
          rw [← Nat.add_assoc, carry, carry, e3, e2]
      · have e1 : d 1 = R 1 := by omega
        rw [if_neg c1, nxf_s]
        by_cases c0 : d 0 < R 0
        · rw [if_pos c0]
          refine key _ (m4 ?_ (Nat.zero_le _) (Nat.zero_le _) (Nat.zero_le _)) ?_
          · exact c0
          · show (((d 0 + 1) * (R 1 + 1) + 0) * (R 2 + 1) + 0) * (R 3 + 1) + 0 = cod R d + 1
            unfold cod
            rw [carry, carry, carry, e3, e2, e1]
        · have e0 : d 0 = R 0 := by omega
          rw [if_neg c0]
          have et : tot R = cod R d + 1 := by
            unfold tot cod
            rw [e0, e1, e2, e3, ← carry, ← carry, ← carry]
            simp only [Nat.add_zero]
          exact ⟨(decide_eq_false (by omega)).symm, fun q => absurd (show false = true from q) (by decide)⟩
/-- pews that aren't there are full -/
theorem nxf_n {R d : Nat → Nat} (h : bx R d) {n : Nat} (h0 : ∀ p, n ≤ p → R p = 0) : ∀ k, n + k ≤ 4 → nxf R d (n + k) = nxf R d n
  | 0, _ => rfl
  | k + 1, hk => by
    rw [show n + (k + 1) = (n + k) + 1 by omega, nxf_s, if_neg (by rw [h0 (n + k) (by omega)]; exact Nat.not_lt_zero _)]
    exact nxf_n h h0 k (by omega)
theorem M_next_loop (hW : WF (D 117)) {d : Nat → Nat} (hd : bx (RM (D 117)) d) : ∀ p f (S : mx_D), p ≤ nP (D 117) → p < f → (∀ c, c ≠ 125 → S c = D c) → (∀ q, q < 4 → S 124 q = D 117 (8 + 3 * q + 2)) → (∀ q, q < 4 → S 125 q = nI (if q < p then d q else 0)) → ∃ S', g_M_nextSawing_9 F f (iI ((p : Int) - 1)) S = some (b01 (nxf (RM (D 117)) d p).1, S') ∧ (∀ c, c ≠ 125 → S' c = D c) ∧ ∀ q, q < 4 → S' 125 q = nI ((nxf (RM (D 117)) d p).2 q) := by
  have h4 := wf_P4 hW
  intro p
  induction p with
  | zero =>
    intro f S hp hf h1 h2 h3
    obtain ⟨f, rfl⟩ : ∃ g, f = g + 1 := ⟨f - 1, by omega⟩
    refine ⟨S, ?_, h1, fun q hq => ?_⟩
    · rw [s_M_nextSawing_9]
      unfold b_M_nextSawing_9
      rw [if_pos (by decide)]
      rfl
    · rw [h3 q hq, if_neg (Nat.not_lt_zero q)]
      rfl
  | succ p ih =>
    intro f S hp hf h1 h2 h3
    obtain ⟨f, rfl⟩ : ∃ g, f = g + 1 := ⟨f - 1, by omega⟩
    have e117 := h1 117 (by decide)
    have hu := wf_up hW (j := p) (by omega)
    have hdp := hd p (by omega)
    have hR9 := RM_9 hW (p := p) (by omega)
    have eR : RM (D 117) p = (ti (D 117) (8 + 3 * p + 1) - ti (D 117) (8 + 3 * p + 2)).toNat := by unfold RM; rw [if_pos (by omega)]
    have el : iI (((p + 1 : Nat) : Int) - 1) = nI p := by
      rw [iI_nI]
      congr 1
      omega
    have e125 : S 125 p = nI (d p) := by rw [h3 p (by omega), if_pos (by omega)]
    rw [s_M_nextSawing_9]
    unfold b_M_nextSawing_9
    rw [el, if_neg (nI_pos (by omega)), rk_in (show p < 4 by omega) (by decide), rk_in (show p < 4 by omega) (by decide), nI_clamp (by omega), M_ofPew_s S (show p < 4 by omega) (by decide), ob_some, h2 p (by omega), e125, e117, nxf_s]
    have cmp : D 117 (8 + 3 * p + 1) ≤ D 117 (8 + 3 * p + 2) + nI (d p) ↔ ¬ d p < RM (D 117) p := by
      rw [ti_at (D 117) (8 + 3 * p + 1), ti_at (D 117) (8 + 3 * p + 2), iI_nI, iI_add, iI_le (by omega) (by omega) (by omega) (by omega), eR]
      omega
    by_cases c : d p < RM (D 117) p
    · rw [if_neg (fun q => cmp.mp q c), if_pos c]
      unfold b_M_nextSawing_35
      rw [rk_in (show p < 4 by omega) (by decide), rk_in (show p < 4 by omega) (by decide), nI_clamp (by omega), e125, nI_add]
      refine ⟨_, rfl, fun c hc => by rw [sD_nr _ _ _ hc, h1 c hc], fun q hq => ?_⟩
      by_cases z : q = p
      · subst z
        rw [sD_eq]
        show nI (d q + 1) = nI (if q < q then d q else if q = q then d q + 1 else 0)
        rw [if_neg (Nat.lt_irrefl _), if_pos rfl]
      · rw [sD_nj _ _ _ z, h3 q hq]
        show nI (if q < p + 1 then d q else 0) = nI (if q < p then d q else if q = p then d p + 1 else 0)
        rw [if_neg z]
        by_cases z2 : q < p
        · rw [if_pos z2, if_pos (by omega)]
        · rw [if_neg z2, if_neg (by omega)]
    · rw [if_pos (cmp.mpr c), if_neg c, rk_in (show p < 4 by omega) (by decide)]
      have e2 : nI p + (-1 : Int32) = iI ((p : Int) - 1) := by
        rw [iI_nI, iI_m1, iI_add]
        congr 1
      rw [e2]
      refine ih f (sD S 125 p (nI 0)) (by omega) (by omega) (fun c hc => by rw [sD_nr _ _ _ hc, h1 c hc]) (fun q hq => by rw [sD_ne _ _ _ _ (by decide)]; exact h2 q hq) (fun q hq => ?_)
      by_cases z : q = p
      · subst z
        rw [sD_eq, if_neg (Nat.lt_irrefl _)]
      · rw [sD_nj _ _ _ z, h3 q hq]
        by_cases z2 : q < p
        · rw [if_pos z2, if_pos (by omega)]
        · rw [if_neg z2, if_neg (by omega)]
/-- a sawing as the reference has it: d more of each -/
def SW (D : mx_D) (d : Nat → Nat) : Prop := bx (RM (D 117)) d ∧ (∀ q, q < 4 → D 124 q = D 117 (8 + 3 * q + 2)) ∧ ∀ q, q < 4 → D 125 q = nI (d q)
theorem SW_of {D' : mx_D} {d : Nat → Nat} (h : SW D d) (e1 : D' 117 = D 117) (e2 : D' 124 = D 124) (e3 : D' 125 = D 125) : SW D' d := by
  unfold SW
  rw [e1, e2, e3]
  exact h
theorem M_next_s (hF : 100 ≤ F) (hW : WF (D 117)) {d : Nat → Nat} (h : SW D d) : ∃ D' d', g_M_nextSawing F D = some (b01 (decide (cod (RM (D 117)) d + 1 < tot (RM (D 117)))), D') ∧ (∀ c, c ≠ 125 → D' c = D c) ∧ (cod (RM (D 117)) d + 1 < tot (RM (D 117)) → SW D' d' ∧ cod (RM (D 117)) d' = cod (RM (D 117)) d + 1) := by
  obtain ⟨h1, h2, h3⟩ := h
  have h4 := wf_P4 hW
  obtain ⟨S', q1, q2, q3⟩ := M_next_loop (F := F) hW h1 (nP (D 117)) F D (Nat.le_refl _) (by omega) (fun _ _ => rfl) h2 (fun q hq => by
    rw [h3 q hq]
    by_cases c : q < nP (D 117)
    · rw [if_pos c]
    · have := h1 q hq
      rw [RM_0 (by omega)] at this
      rw [if_neg c, Nat.le_zero.mp this])
  have en := nxf_n h1 (n := nP (D 117)) (fun p hp => RM_0 hp) (4 - nP (D 117)) (by omega)
  rw [show nP (D 117) + (4 - nP (D 117)) = 4 by omega] at en
  obtain ⟨n1, n2⟩ := nxf_4 h1
  rw [← en] at q1 q3
  refine ⟨S', (nxf (RM (D 117)) d 4).2, ?_, q2, fun c => ?_⟩
  · unfold g_M_nextSawing
    have e : D 117 0 - nI 1 = iI ((nP (D 117) : Int) - 1) := by
      rw [wf_P hW, iI_nI, iI_nI 1, iI_sub]
      rfl
    rw [e, q1, n1]
  · have t : (nxf (RM (D 117)) d 4).1 = true := by rw [n1]; exact decide_eq_true c
    obtain ⟨m1, m2⟩ := n2 t
    refine ⟨⟨by rw [q2 117 (by decide)]; exact m1, fun q hq => by rw [q2 124 (by decide), q2 117 (by decide)]; exact h2 q hq, q3⟩, m2⟩
theorem M_bSaw_s (hF : 100 ≤ F) (D : mx_D) : ∃ D', g_M_beginsSawing F D = some D' ∧ (∀ c, c ≠ 124 → c ≠ 125 → D' c = D c) ∧ SW D' (fun _ => 0) := by
  unfold g_M_beginsSawing
  obtain ⟨D', k1, k2, k3⟩ := lp0 (F := F) (s := D) (fun a (s : mx_D) => (∀ c, c ≠ 124 → c ≠ 125 → s c = D c) ∧ ∀ q, q < a → s 124 q = D 117 (8 + 3 * q + 2) ∧ s 125 q = nI 0) (fun s => (∀ c, c ≠ 124 → c ≠ 125 → s c = D c) ∧ ∀ q, q < 4 → s 124 q = D 117 (8 + 3 * q + 2) ∧ s 125 q = nI 0) (fun f a s => g_M_beginsSawing_2 F f (nI a) s) (n := 4) (by omega) ⟨fun _ _ _ => rfl, fun q hq => absurd hq (Nat.not_lt_zero q)⟩ (fun f a s ha hI => by
    refine ⟨sD (sD s 124 a (s 117 (8 + 3 * a + 2))) 125 a (nI 0), ⟨fun c q1 q2 => by rw [sD_nr _ _ _ q2, sD_nr _ _ _ q1, hI.1 c q1 q2], fun q hq => ?_⟩, ?_⟩
    · by_cases z : q = a
      · subst z
        rw [sD_ne _ _ _ _ (by decide), sD_eq, sD_eq, hI.1 117 (by decide) (by decide)]
        exact ⟨rfl, rfl⟩
      · rw [sD_ne _ _ _ _ (by decide), sD_nj _ _ _ z, sD_nj _ _ _ z, sD_ne _ _ _ _ (by decide)]
        exact hI.2 q (by omega)
    · show g_M_beginsSawing_2 F (f + 1) _ _ = _
      rw [s_M_beginsSawing_2]
      unfold b_M_beginsSawing_2
      rw [if_neg (nI_ge ha (by decide)), M_ofPew_s s ha (by decide), ob_some, rk_in ha (by decide), rk_in ha (by decide), nI_clamp (by omega), nI_add]) (fun f s hI => by
    refine ⟨s, ?_, hI⟩
    show g_M_beginsSawing_2 F (f + 1) _ _ = _
    rw [s_M_beginsSawing_2]
    unfold b_M_beginsSawing_2
    rw [if_pos (by decide)])
  refine ⟨D', k1, k2, fun p _ => Nat.zero_le _, fun q hq => ?_, fun q hq => (k3 q hq).2⟩
  rw [(k3 q hq).1, k2 117 (by decide) (by decide)]
/-- the heights under a sawing -/
def hsm (w : W_) (hs : Nat → Int) (d : Nat → Int) (x : Nat) : Int := hs x - (if st w x = true then d (pw w x) else 0)
theorem M_keepUn_s (hF : 100 ≤ F) (hW : WF (D 117)) (y : Nat) : ∃ D', g_M_keepUnsawn F (nI y) D = some D' ∧ (∀ c, c ≠ 123 → c ≠ 127 → D' c = D c) ∧ ∀ x, x < nA (D 117) → D' 127 x = iI (hi (D 117) y x) := by
  have h8 := wf_A8 hW
  obtain ⟨A, a1, a2, a3⟩ := M_lay_s hF hW y
  have e117 := a2 117 (by decide)
  unfold g_M_keepUnsawn
  rw [a1, ob_some]
  obtain ⟨D', k1, k2, k3⟩ := lp0 (F := F) (s := A) (fun a (s : mx_D) => (∀ c, c ≠ 127 → s c = A c) ∧ ∀ x, x < a → s 127 x = iI (hi (D 117) y x)) (fun s => (∀ c, c ≠ 127 → s c = A c) ∧ ∀ x, x < nA (D 117) → s 127 x = iI (hi (D 117) y x)) (fun f a s => g_M_keepUnsawn_7 F f (nI a) s) (n := nA (D 117)) (by omega) ⟨fun _ _ => rfl, fun q hq => absurd hq (Nat.not_lt_zero q)⟩ (fun f a s ha hI => by
    refine ⟨sD s 127 a (iI (hi (D 117) y a)), ⟨fun c q1 => by rw [sD_nr _ _ _ q1, hI.1 c q1], fun x hx => ?_⟩, ?_⟩
    · by_cases z : x = a
      · subst z
        rw [sD_eq]
      · rw [sD_nj _ _ _ z]
        exact hI.2 x (by omega)
    · show g_M_keepUnsawn_7 F (f + 1) _ _ = _
      rw [s_M_keepUnsawn_7]
      unfold b_M_keepUnsawn_7
      rw [hI.1 117 (by decide), e117, wf_A hW, if_neg (nI_ge ha (by omega)), rk_in (by omega) (by decide), rk_in (by omega) (by decide), nI_clamp (by omega), hI.1 123 (by decide), a3 a ha, nI_add]) (fun f s hI => by
    refine ⟨s, ?_, hI⟩
    show g_M_keepUnsawn_7 F (f + 1) _ _ = _
    rw [s_M_keepUnsawn_7]
    unfold b_M_keepUnsawn_7
    rw [hI.1 117 (by decide), e117, wf_A hW, if_pos (nI_le (Nat.le_refl _) (by omega))])
  exact ⟨D', k1, fun c q1 q2 => by rw [k2 c q2, a2 c q1], k3⟩
theorem M_layMore_s (hF : 100 ≤ F) (hW : WF (D 117)) {d : Nat → Nat} (h : SW D d) {hs : Nat → Int} (hh : ∀ x, x < nA (D 117) → D 127 x = iI (hs x)) : ∃ D', g_M_layMore F D = some D' ∧ (∀ c, c ≠ 123 → D' c = D c) ∧ ∀ x, x < nA (D 117) → D' 123 x = iI (hsm (D 117) hs (fun p => (d p : Int)) x) := by
  have h8 := wf_A8 hW
  have h4 := wf_P4 hW
  unfold g_M_layMore
  obtain ⟨D', k1, k2, k3⟩ := lp0 (F := F) (s := D) (fun a (s : mx_D) => (∀ c, c ≠ 123 → s c = D c) ∧ ∀ x, x < a → s 123 x = iI (hsm (D 117) hs (fun p => (d p : Int)) x)) (fun s => (∀ c, c ≠ 123 → s c = D c) ∧ ∀ x, x < nA (D 117) → s 123 x = iI (hsm (D 117) hs (fun p => (d p : Int)) x)) (fun f a s => g_M_layMore_2 F f (nI a) s) (n := nA (D 117)) (by omega) ⟨fun _ _ => rfl, fun q hq => absurd hq (Nat.not_lt_zero q)⟩ (fun f a s ha hI => by
    have e117 := hI.1 117 (by decide)
    have hm : ∀ v : Int32, v = iI (hsm (D 117) hs (fun p => (d p : Int)) a) → (∀ c, c ≠ 123 → sD s 123 a v c = D c) ∧ ∀ x, x < a + 1 → sD s 123 a v 123 x = iI (hsm (D 117) hs (fun p => (d p : Int)) x) := fun v hv => by
      refine ⟨fun c q1 => by rw [sD_nr _ _ _ q1, hI.1 c q1], fun x hx => ?_⟩
      by_cases z : x = a
      · subst z
        rw [sD_eq, hv]
      · rw [sD_nj _ _ _ z]
        exact hI.2 x (by omega)
    show ∃ s', _ ∧ g_M_layMore_2 F (f + 1) (nI a) s = g_M_layMore_2 F f (nI (a + 1)) s'
    rw [s_M_layMore_2]
    unfold b_M_layMore_2
    rw [e117, wf_A hW, if_neg (nI_ge ha (by omega)), rk_in (by omega) (by decide), M_sits_s s (by omega), ob_some, nI_clamp (by omega), hI.1 127 (by decide), hh a ha, e117]
    cases hs' : st (D 117) a
    · rw [if_pos (show b01 false = 0 from rfl), rk_in (by omega) (by decide), nI_add]
      refine ⟨_, hm _ ?_, rfl⟩
      unfold hsm
      rw [hs', if_neg (by decide), iI_nI 0, iI_sub]
      rfl
    · obtain ⟨p1, p2, p3, p4⟩ := wf_sit hW ha hs'
      rw [if_neg (show ¬ b01 true = 0 by decide), M_of_s s (by omega) (by decide), ob_some, e117, p1, rk_in (by omega) (by decide), rk_in (by omega) (by decide), nI_clamp (by omega), hI.1 125 (by decide), h.2.2 _ (by omega), nI_add]
      refine ⟨_, hm _ ?_, rfl⟩
      unfold hsm
      rw [hs', if_pos rfl, iI_nI (d _), iI_sub]) (fun f s hI => by
    refine ⟨s, ?_, hI⟩
    show g_M_layMore_2 F (f + 1) _ _ = _
    rw [s_M_layMore_2]
    unfold b_M_layMore_2
    rw [hI.1 117 (by decide), wf_A hW, if_pos (nI_le (Nat.le_refl _) (by omega))])
  exact ⟨D', k1, k2, k3⟩
/-- the sum of a sawing -/
def su (d : Nat → Nat) : Nat := d 0 + d 1 + d 2 + d 3
theorem M_sum_s (hF : 100 ≤ F) (hW : WF (D 117)) {d : Nat → Nat} (h : SW D d) : g_M_sumMore F D = some (nI (su d)) := by
  have h4 := wf_P4 hW
  have hz : ∀ q, nP (D 117) ≤ q → q < 4 → d q = 0 := fun q q1 q2 => by
    have := h.1 q q2
    rw [RM_0 q1] at this
    omega
  have e : fo (fun q s => s + d q) 0 (nP (D 117)) = su d := by
    unfold su
    rcases (show nP (D 117) = 0 ∨ nP (D 117) = 1 ∨ nP (D 117) = 2 ∨ nP (D 117) = 3 ∨ nP (D 117) = 4 by omega) with q | q | q | q | q
    · rw [q, hz 0 (by omega) (by decide), hz 1 (by omega) (by decide), hz 2 (by omega) (by decide), hz 3 (by omega) (by decide)]
      rfl
    · rw [q, hz 1 (by omega) (by decide), hz 2 (by omega) (by decide), hz 3 (by omega) (by decide)]
      simp [fo]
    · rw [q, hz 2 (by omega) (by decide), hz 3 (by omega) (by decide)]
      simp [fo]
    · rw [q, hz 3 (by omega) (by decide)]
      simp [fo]
    · rw [q]
      simp [fo]
  unfold g_M_sumMore
  rw [← e]
  refine lu0 (fun f q => g_M_sumMore_4 F D f (nI (fo (fun q s => s + d q) 0 q)) (nI q)) (n := nP (D 117)) _ (by omega) (fun f q hq => ?_) (fun f => ?_)
  · rw [s_M_sumMore_4]
    unfold b_M_sumMore_4
    rw [wf_P hW, if_neg (nI_ge hq (by omega)), rk_in (by omega) (by decide), nI_clamp (by omega), h.2.2 q (by omega), nI_add, nI_add, fo_s]
  · rw [s_M_sumMore_4]
    unfold b_M_sumMore_4
    rw [wf_P hW, if_pos (nI_le (Nat.le_refl _) (by omega))]
theorem M_keep_s (hF : 100 ≤ F) (hW : WF (D 117)) {d : Nat → Nat} (h : SW D d) : ∃ D', g_M_keepIfBest F D = some D' ∧ (∀ c, c ≠ 116 → c ≠ 126 → D' c = D c) ∧ (∀ j, j ≠ 19 → D' 116 j = D 116 j) ∧ if D 116 19 = -1 ∨ nI (su d) < D 116 19 then D' 116 19 = nI (su d) ∧ ∀ q, q < 4 → D' 126 q = nI (d q) else D' = D := by
  have loop : ∃ D', g_M_keepIfBest_30 F F (nI 0) (sD D 116 19 (nI (su d))) = some D' ∧ (∀ c, c ≠ 126 → D' c = sD D 116 19 (nI (su d)) c) ∧ ∀ q, q < 4 → D' 126 q = nI (d q) :=
    lp0 (F := F) (s := sD D 116 19 (nI (su d))) (fun a (s : mx_D) => (∀ c, c ≠ 126 → s c = sD D 116 19 (nI (su d)) c) ∧ ∀ q, q < a → s 126 q = nI (d q)) (fun s => (∀ c, c ≠ 126 → s c = sD D 116 19 (nI (su d)) c) ∧ ∀ q, q < 4 → s 126 q = nI (d q)) (fun f a s => g_M_keepIfBest_30 F f (nI a) s) (n := 4) (by omega) ⟨fun _ _ => rfl, fun q hq => absurd hq (Nat.not_lt_zero q)⟩ (fun f a s ha hI => by
    refine ⟨sD s 126 a (nI (d a)), ⟨fun c q1 => by rw [sD_nr _ _ _ q1, hI.1 c q1], fun x hx => ?_⟩, ?_⟩
    · by_cases z : x = a
      · subst z
        rw [sD_eq]
      · rw [sD_nj _ _ _ z]
        exact hI.2 x (by omega)
    · show g_M_keepIfBest_30 F (f + 1) _ _ = _
      rw [s_M_keepIfBest_30]
      unfold b_M_keepIfBest_30
      rw [if_neg (nI_ge ha (by decide)), rk_in ha (by decide), rk_in ha (by decide), nI_clamp (by omega), hI.1 125 (by decide), sD_nr _ _ _ (show 125 ≠ 116 by decide), h.2.2 a ha, nI_add]) (fun f s hI => by
    refine ⟨s, ?_, hI⟩
    show g_M_keepIfBest_30 F (f + 1) _ _ = _
    rw [s_M_keepIfBest_30]
    unfold b_M_keepIfBest_30
    rw [if_pos (by decide)])
  obtain ⟨K, k1, k2, k3⟩ := loop
  have fr : (∀ c, c ≠ 116 → c ≠ 126 → K c = D c) ∧ (∀ j, j ≠ 19 → K 116 j = D 116 j) ∧ K 116 19 = nI (su d) := ⟨fun c q1 q2 => by rw [k2 c q2, sD_nr _ _ _ q1], fun j hj => by rw [k2 116 (by decide), sD_nj _ _ _ hj], by rw [k2 116 (by decide), sD_eq]⟩
  unfold g_M_keepIfBest
  by_cases c1 : D 116 19 = -1
  · rw [if_pos c1, M_sum_s hF hW h, ob_some, k1]
    exact ⟨K, rfl, fr.1, fr.2.1, by rw [if_pos (Or.inl c1)]; exact ⟨fr.2.2, k3⟩⟩
  · rw [if_neg c1, M_sum_s hF hW h, ob_some]
    by_cases c2 : nI (su d) < D 116 19
    · rw [if_pos c2, ob_some, k1]
      exact ⟨K, rfl, fr.1, fr.2.1, by rw [if_pos (Or.inr c2)]; exact ⟨fr.2.2, k3⟩⟩
    · rw [if_neg c2]
      exact ⟨D, rfl, fun _ _ _ => rfl, fun _ _ => rfl, by rw [if_neg (fun q => q.elim c1 c2)]⟩
end BX
