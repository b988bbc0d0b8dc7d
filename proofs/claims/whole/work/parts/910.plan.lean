/-! ===== years in a row: what is sawn by each, the least ===== -/
section PL
variable {D : mx_D} {E : mx_E} {w : W_} {F : Nat}
theorem SOL_c {hs : Nat → Int} {S : Nat} {L : Int} {a b m : Nat → Int} (e : ∀ p, p < 4 → a p = b p) (h : SOL w hs S L a m) : SOL w hs S L b m :=
  ⟨fun p hp => by rw [← e p hp]; exact h.1 p hp, h.2⟩
theorem LEA_u {hs : Nat → Int} {S : Nat} {L : Int} {a b m m' : Nat → Int} (e : ∀ p, p < 4 → a p = b p) (h : LEA w hs S L a m) (h' : LEA w hs S L b m') : ∀ p, p < 4 → m p = m' p := fun p hp => by
  have q1 := h.2 m' (SOL_c (fun p hp => (e p hp).symm) h'.1) p hp
  have q2 := h'.2 m (SOL_c e h.1) p hp
  omega
/-- what is sawn before the years up to k, k itself aside -/
def PR (w : W_) : Nat → (Nat → Int) → Prop
  | 0, m => m = fun _ => 0
  | k + 1, m => ∃ m0, PR w k m0 ∧ LEA w (hi w k) (sM w) (nV w) m0 m
theorem PR_s (w : W_) (k : Nat) (m : Nat → Int) : PR w (k + 1) m = ∃ m0, PR w k m0 ∧ LEA w (hi w k) (sM w) (nV w) m0 m := rfl
theorem PR_u : ∀ k (a b : Nat → Int), PR w k a → PR w k b → ∀ p, p < 4 → a p = b p
  | 0, a, b, ha, hb, p, hp => by
    have ea : a = fun _ => 0 := ha
    have eb : b = fun _ => 0 := hb
    rw [ea, eb]
  | k + 1, a, b, ha, hb, p, hp => by
    obtain ⟨a0, a1, a2⟩ := ha
    obtain ⟨b0, b1, b2⟩ := hb
    exact LEA_u (PR_u k a0 b0 a1 b1) a2 b2 p hp
theorem PR_b : ∀ k (a : Nat → Int), PR w k a → ∀ p, p < 4 → 0 ≤ a p ∧ a p ≤ RM w p
  | 0, a, ha, p, hp => by
    have ea : a = fun _ => 0 := ha
    rw [ea]
    exact ⟨Int.le_refl _, Int.natCast_nonneg _⟩
  | k + 1, a, ha, p, hp => by
    obtain ⟨a0, a1, a2⟩ := ha
    have q := PR_b k a0 a1 p hp
    have := a2.1.1 p hp
    omega
theorem PR_dn : ∀ k j (a : Nat → Int), j ≤ k → PR w k a → ∃ b, PR w j b
  | 0, j, a, hj, ha => ⟨a, by rw [show j = 0 by omega]; exact ha⟩
  | k + 1, j, a, hj, ha => by
    by_cases c : j = k + 1
    · rw [c]
      exact ⟨a, ha⟩
    · obtain ⟨a0, a1, -⟩ := ha
      exact PR_dn k j a0 (by omega) a1
/-- no sawing lasts over year k -/
def NO (w : W_) (k : Nat) : Prop := ∃ m0, PR w k m0 ∧ ∀ m, ¬ SOL w (hi w k) (sM w) (nV w) m0 m
theorem NO_PR {k : Nat} (h : NO w k) {j : Nat} (hj : k < j) {m : Nat → Int} : ¬ PR w j m := fun hm => by
  obtain ⟨m0, p1, p2⟩ := h
  obtain ⟨b, hb⟩ := PR_dn j (k + 1) m (by omega) hm
  obtain ⟨b0, b1, b2⟩ := hb
  exact p2 b (SOL_c (PR_u k b0 m0 b1 p1) b2.1)
theorem NO_eq {k j : Nat} (h : NO w k) (h' : NO w j) : k = j := by
  rcases Nat.lt_trichotomy k j with q | q | q
  · obtain ⟨m0, p1, -⟩ := h'
    exact absurd p1 (NO_PR h q)
  · exact q
  · obtain ⟨m0, p1, -⟩ := h
    exact absurd p1 (NO_PR h' q)
/-- there is a least one, if there is one -/
theorem LEA_ex (hW : WF w) {hs : Nat → Int} (hb : ∀ x, x < nA w → -9000 < hs x ∧ hs x < 9000) {S : Nat} (hS : sub S (nA w)) (hst : ∀ x, S.testBit x = true → st w x = true) {L : Int} (hL : 0 ≤ L) (hL2 : L ≤ 100000) {m0 : Nat → Int} (h0 : ∀ p, p < 4 → 0 ≤ m0 p ∧ m0 p ≤ RM w p) (h : ∃ m, SOL w hs S L m0 m) : ∃ m, LEA w hs S L m0 m := by
  obtain ⟨b, D', -, -, b3⟩ := S_settle_s (F := 100) (D := fun c j => if c = 34 then (if j = 2 then nI (sM w) else b01 (ba w)) else if c = 35 then iI (hs j) else if c = 36 then nI (pM w j) else if c = 38 then iI (m0 j) else nI (RM w j)) (Nat.le_refl _) hW hb ⟨fun x _ => by simp, fun p _ => by simp, by simp, by simp⟩ hS hst hL hL2 (m0 := m0) (fun p hp => ⟨by simp, by simp, h0 p hp⟩)
  cases b
  · rw [if_neg (by decide)] at b3
    obtain ⟨m, hm⟩ := h
    exact absurd hm (b3 m)
  · rw [if_pos rfl] at b3
    obtain ⟨m, -, hm⟩ := b3
    exact ⟨m, hm⟩
/-- the class, year by year -/
theorem X_plan_s (hF : 100 ≤ F) (hW : WF w) {n : Nat} (hn : n ≤ 30) : ∀ k y f (D : mx_D) (m0 : Nat → Int), y + k = n + 1 → k < f → CC D w → (∀ p, p < 4 → D 38 p = iI (m0 p) ∧ D 39 p = nI (RM w p)) → PR w y m0 → ∃ r D', g_X_sawAsLongAsCan_13 F f (nI n) (nI y) D = some (r, D') ∧ SX w D D' ∧ ((r = nI n ∧ ∃ m, PR w (n + 1) m ∧ ∀ p, p < 4 → D' 38 p = iI (m p)) ∨ ∃ k, k ≤ n ∧ r = iI ((k : Int) - 1) ∧ NO w k) := by
  intro k
  induction k with
  | zero =>
    intro y f D m0 hy hf hC h0 hP
    obtain ⟨f, rfl⟩ : ∃ g, f = g + 1 := ⟨f - 1, by omega⟩
    obtain rfl : y = n + 1 := by omega
    refine ⟨nI n, D, ?_, ⟨fun _ _ => rfl, fun p hp => (h0 p hp).2⟩, Or.inl ⟨rfl, m0, hP, fun p hp => (h0 p hp).1⟩⟩
    rw [s_X_sawAsLongAsCan_13]
    unfold b_X_sawAsLongAsCan_13
    rw [if_pos (nI_lt (by omega) (by omega))]
  | succ k ih =>
    intro y f D m0 hy hf hC h0 hP
    obtain ⟨f, rfl⟩ : ∃ g, f = g + 1 := ⟨f - 1, by omega⟩
    have hb := PR_b y m0 hP
    obtain ⟨b, A, a1, a2, a3, a4⟩ := X_saw_step hF hC hW (show y ≤ n by omega) hn (m0 := m0) (fun p hp => ⟨(h0 p hp).1, (h0 p hp).2, (hb p hp).1, (hb p hp).2⟩) f
    rw [a1]
    cases b
    · rw [if_neg (show ¬ false = true by decide)] at a4 ⊢
      exact ⟨_, A, rfl, a2, Or.inr ⟨y, by omega, rfl, m0, hP, a4⟩⟩
    · rw [if_pos (show true = true from rfl)] at a4 ⊢
      obtain ⟨m, n1, n2⟩ := a4
      obtain ⟨r, B, b1, b2, b3⟩ := ih (y + 1) f A m (by omega) (by omega) (CC_of hC (fun c hc => a2.1 c (by omega))) (fun p hp => ⟨n1 p hp, a2.2 p hp⟩) ⟨m0, hP, n2⟩
      exact ⟨r, B, b1, ⟨fun c hc => by rw [b2.1 c hc, a2.1 c hc], b2.2⟩, b3⟩
theorem X_plans_s (hF : 100 ≤ F) (hC : CC D w) (hW : WF w) {n : Nat} (hn : n ≤ 30) : ∃ r D', g_X_sawAsLongAsCan F (nI 0) (nI n) D = some (r, D') ∧ FX D D' ∧ ((r = nI n ∧ ∃ m, PR w (n + 1) m ∧ ∀ p, p < 4 → D' 38 p = iI (m p)) ∨ ∃ k, k ≤ n ∧ r = iI ((k : Int) - 1) ∧ NO w k) := by
  obtain ⟨B, b1, b2, b3⟩ := S_begin_s hF hC hW
  obtain ⟨r, A, a1, a2, a3⟩ := X_plan_s hF hW hn (n + 1) 0 F B (fun _ => 0) (by omega) (by omega) (CC_of hC (fun c hc => b2 c (by omega) (by omega))) b3 rfl
  refine ⟨r, A, ?_, fun c hc => by rw [a2.1 c (by omega), b2 c (by omega) (by omega)], a3⟩
  unfold g_X_sawAsLongAsCan
  rw [b1, ob_some, a1]
/-- the number under which the reference keeps a sawing -/
def cd (d : Nat → Nat) : Nat := 1000 * d 0 + 100 * d 1 + 10 * d 2 + d 3
theorem bx_9 (hW : WF w) {d : Nat → Nat} (h : bx (RM w) d) : d 0 ≤ 9 ∧ d 1 ≤ 9 ∧ d 2 ≤ 9 ∧ d 3 ≤ 9 := by
  have h0 := h 0 (by decide)
  have h1 := h 1 (by decide)
  have h2 := h 2 (by decide)
  have h3 := h 3 (by decide)
  have r0 := RM_9 hW (p := 0) (by decide)
  have r1 := RM_9 hW (p := 1) (by decide)
  have r2 := RM_9 hW (p := 2) (by decide)
  have r3 := RM_9 hW (p := 3) (by decide)
  omega
theorem cd_b (hW : WF w) {d : Nat → Nat} (h : bx (RM w) d) : cd d < 10000 := by
  have := bx_9 hW h
  unfold cd
  omega
theorem cd_inj (hW : WF w) {d e : Nat → Nat} (hd : bx (RM w) d) (he : bx (RM w) e) (h : cd d = cd e) : ∀ p, p < 4 → d p = e p := by
  have := bx_9 hW hd
  have := bx_9 hW he
  unfold cd at h
  intro p hp
  rcases (show p = 0 ∨ p = 1 ∨ p = 2 ∨ p = 3 by omega) with rfl | rfl | rfl | rfl <;> omega
theorem cd_c {d e : Nat → Nat} (h : ∀ p, p < 4 → d p = e p) : cd d = cd e := by
  unfold cd
  rw [h 0 (by decide), h 1 (by decide), h 2 (by decide), h 3 (by decide)]
theorem M_code_s (hF : 100 ≤ F) (hW : WF (D 117)) {d : Nat → Nat} (h : SW D d) : g_M_code F D = some (nI (cd d)) := by
  have h4 := wf_P4 hW
  have e : cd d = fo (fun p s => 10 * s + d p) 0 4 := by
    unfold cd
    simp only [fo]
    omega
  rw [e]
  unfold g_M_code
  refine lu0 (fun f p => g_M_code_4 F D f (nI (fo (fun p s => 10 * s + d p) 0 p)) (nI p)) (n := 4) _ (by omega) (fun f p hp => ?_) (fun f => ?_)
  · rw [s_M_code_4]
    unfold b_M_code_4
    rw [if_neg (nI_ge hp (by decide)), wf_P hW, nI_add, fo_s]
    by_cases c : nP (D 117) ≤ p
    · have hz := h.1 p hp
      rw [RM_0 c] at hz
      rw [if_pos (nI_le c (by omega)), pk_mul, Nat.mul_comm, nI_add, Nat.le_zero.mp hz, Nat.mul_comm]
    · rw [if_neg (nI_ge (by omega) (by omega)), rk_in hp (by decide), nI_clamp (by omega), h.2.2 p hp, pk_mul, nI_add]
  · rw [s_M_code_4]
    unfold b_M_code_4
    rw [if_pos (by decide)]
def un (p : Nat) : Nat := if p = 0 then 1000 else if p = 1 then 100 else if p = 2 then 10 else 1
theorem M_unit_s (hF : 100 ≤ F) {p : Nat} (hp : p < 4) : g_M_unit F (nI p) = some (nI (un p)) := by
  have key : ∀ k q f a, q + k = 4 → k < f → g_M_unit_6 F f (nI a) (nI q) = some (nI (a * 10 ^ k)) := by
    intro k
    induction k with
    | zero =>
      intro q f a hq hf
      obtain ⟨f, rfl⟩ : ∃ g, f = g + 1 := ⟨f - 1, by omega⟩
      obtain rfl : q = 4 := by omega
      rw [s_M_unit_6]
      unfold b_M_unit_6
      rw [if_pos (by decide)]
      simp
    | succ k ih =>
      intro q f a hq hf
      obtain ⟨f, rfl⟩ : ∃ g, f = g + 1 := ⟨f - 1, by omega⟩
      rw [s_M_unit_6]
      unfold b_M_unit_6
      rw [if_neg (nI_ge (by omega) (by decide)), pk_mul, nI_add, ih (q + 1) f (a * 10) (by omega) (by omega), Nat.pow_succ, Nat.mul_assoc, Nat.mul_comm 10]
  unfold g_M_unit
  rw [nI_add, key (3 - p) (p + 1) F 1 (by omega) (by omega)]
  rcases (show p = 0 ∨ p = 1 ∨ p = 2 ∨ p = 3 by omega) with rfl | rfl | rfl | rfl <;> rfl
/-- one inch less of a pew -/
def dwn (d : Nat → Nat) (p : Nat) : Nat → Nat := fun q => if q = p then d p - 1 else d q
theorem cd_dwn {d : Nat → Nat} {p : Nat} (hp : p < 4) (h : 0 < d p) : un p ≤ cd d ∧ cd (dwn d p) = cd d - un p := by
  rcases (show p = 0 ∨ p = 1 ∨ p = 2 ∨ p = 3 by omega) with rfl | rfl | rfl | rfl
  · show 1000 ≤ 1000 * d 0 + 100 * d 1 + 10 * d 2 + d 3 ∧ 1000 * (d 0 - 1) + 100 * d 1 + 10 * d 2 + d 3 = 1000 * d 0 + 100 * d 1 + 10 * d 2 + d 3 - 1000
    omega
  · show 100 ≤ 1000 * d 0 + 100 * d 1 + 10 * d 2 + d 3 ∧ 1000 * d 0 + 100 * (d 1 - 1) + 10 * d 2 + d 3 = 1000 * d 0 + 100 * d 1 + 10 * d 2 + d 3 - 100
    omega
  · show 10 ≤ 1000 * d 0 + 100 * d 1 + 10 * d 2 + d 3 ∧ 1000 * d 0 + 100 * d 1 + 10 * (d 2 - 1) + d 3 = 1000 * d 0 + 100 * d 1 + 10 * d 2 + d 3 - 10
    omega
  · show 1 ≤ 1000 * d 0 + 100 * d 1 + 10 * d 2 + d 3 ∧ 1000 * d 0 + 100 * d 1 + 10 * d 2 + (d 3 - 1) = 1000 * d 0 + 100 * d 1 + 10 * d 2 + d 3 - 1
    omega
theorem ml1 {a a' r b : Nat} (h : a < a') : a * (r + 1) + b < a' * (r + 1) + b := by
  have : a * (r + 1) < a' * (r + 1) := Nat.mul_lt_mul_of_pos_right h (Nat.succ_pos r)
  omega
theorem cod_dwn (R : Nat → Nat) {d : Nat → Nat} {p : Nat} (hp : p < 4) (h : 0 < d p) : cod R (dwn d p) < cod R d := by
  have e : ∀ q, q ≠ p → dwn d p q = d q := fun q hq => by unfold dwn; rw [if_neg hq]
  have ep : dwn d p p < d p := by unfold dwn; rw [if_pos rfl]; omega
  unfold cod
  rcases (show p = 0 ∨ p = 1 ∨ p = 2 ∨ p = 3 by omega) with rfl | rfl | rfl | rfl
  · rw [e 1 (by decide), e 2 (by decide), e 3 (by decide)]
    exact ml1 (ml1 (ml1 ep))
  · rw [e 0 (by decide), e 2 (by decide), e 3 (by decide)]
    exact ml1 (ml1 (Nat.add_lt_add_left ep _))
  · rw [e 0 (by decide), e 1 (by decide), e 3 (by decide)]
    exact ml1 (Nat.add_lt_add_left ep _)
  · rw [e 0 (by decide), e 1 (by decide), e 2 (by decide)]
    exact Nat.add_lt_add_left ep _
/-- what the row of truths says of sawings -/
def CBE (D : mx_D) (A : (Nat → Nat) → Prop) : Prop := ∀ m, bx (RM (D 117)) m → ∃ b, D 128 (cd m) = b01 b ∧ (b = true ↔ A m)
theorem CBE_of {D' : mx_D} {A : (Nat → Nat) → Prop} (h : CBE D A) (e1 : D' 117 = D 117) (e2 : D' 128 = D 128) : CBE D' A := by
  unfold CBE
  rw [e1, e2]
  exact h
theorem CBE_c {A A' : (Nat → Nat) → Prop} (h : CBE D A) (e : ∀ m, bx (RM (D 117)) m → (A m ↔ A' m)) : CBE D A' := fun m hm => by
  obtain ⟨b, b1, b2⟩ := h m hm
  exact ⟨b, b1, b2.trans (e m hm)⟩
def le4 (a b : Nat → Nat) : Prop := ∀ p, p < 4 → a p ≤ b p
theorem nar_b (b : Bool) : vp_nar .boolean (b01 b) = b01 b := by cases b <;> decide
theorem b01_inj {a b : Bool} (h : b01 a = b01 b) : a = b := by
  cases a <;> cases b
  · rfl
  · exact absurd h (by decide)
  · exact absurd h (by decide)
  · rfl
end PL
