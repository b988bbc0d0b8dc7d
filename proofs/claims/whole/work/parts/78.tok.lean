/-! ===== the tokens of the tape, of both readers ===== -/
section TK
variable {D : mx_D} {E : mx_E} {F : Nat}
theorem by_iI {c : Int32} (h1 : -128 ≤ c.toInt) (h2 : c.toInt ≤ 127) : ∃ n : Fin 256, c = iI ((n.val : Int) - 128) := by
  refine ⟨⟨(c.toInt + 128).toNat, by omega⟩, ?_⟩
  show c = iI ((((c.toInt + 128).toNat : Nat) : Int) - 128)
  rw [show (((c.toInt + 128).toNat : Nat) : Int) - 128 = c.toInt by omega]
  exact (Int32.ofInt_toInt c).symm
set_option maxRecDepth 100000 in
theorem by_all : ∀ n : Fin 256, ((iI ((n.val : Int) - 128) &&& nI 255 = nI 32 ↔ iI ((n.val : Int) - 128) = nI 32) ∧ (iI ((n.val : Int) - 128) &&& nI 255 = nI 10 ↔ iI ((n.val : Int) - 128) = nI 10) ∧ (iI ((n.val : Int) - 128) &&& nI 255 = nI 59 ↔ iI ((n.val : Int) - 128) = nI 59)) ∧ ¬ (iI ((n.val : Int) - 128) &&& nI 255 = -1) ∧ g_M_in (iI ((n.val : Int) - 128) &&& nI 255).toInt64 97 122 = g_Reader_isLetter (iI ((n.val : Int) - 128)) ∧ g_M_in (iI ((n.val : Int) - 128) &&& nI 255).toInt64 48 57 = g_Reader_isDigit (iI ((n.val : Int) - 128)) ∧ (¬ g_Reader_isDigit (iI ((n.val : Int) - 128)) = 0 → iI ((n.val : Int) - 128) &&& nI 255 = iI ((n.val : Int) - 128)) := by
  decide +kernel
theorem by_c {c : Int32} (h : -128 ≤ c.toInt ∧ c.toInt ≤ 127) : ((c &&& nI 255 = nI 32 ↔ c = nI 32) ∧ (c &&& nI 255 = nI 10 ↔ c = nI 10) ∧ (c &&& nI 255 = nI 59 ↔ c = nI 59)) ∧ ¬ (c &&& nI 255 = -1) ∧ g_M_in (c &&& nI 255).toInt64 97 122 = g_Reader_isLetter c ∧ g_M_in (c &&& nI 255).toInt64 48 57 = g_Reader_isDigit c ∧ (¬ g_Reader_isDigit c = 0 → c &&& nI 255 = c) := by
  obtain ⟨n, rfl⟩ := by_iI h.1 h.2
  exact by_all n
theorem dig_of {c : Int32} (h : ¬ g_Reader_isDigit c = 0) : ∃ d, d ≤ 9 ∧ c = nI (48 + d) := by
  unfold g_Reader_isDigit at h
  by_cases h1 : c < nI 48
  · rw [if_pos h1] at h
    exact absurd rfl h
  · rw [if_neg h1] at h
    by_cases h2 : nI 57 < c
    · rw [if_pos h2] at h
      exact absurd rfl h
    · have q1 : (nI 48).toInt = 48 := by decide
      have q2 : (nI 57).toInt = 57 := by decide
      rw [Int32.lt_iff_toInt_lt, q1] at h1
      rw [Int32.lt_iff_toInt_lt, q2] at h2
      refine ⟨(c.toInt - 48).toNat, by omega, ?_⟩
      rw [iI_nI, show (((48 + (c.toInt - 48).toNat : Nat)) : Int) = c.toInt by omega]
      exact (Int32.ofInt_toInt c).symm
/-- blanks, letters, digits from p on, k at most; what the digits say -/
def tw (T : Nat → Int32) : Nat → Nat → Nat
  | 0, p => p
  | k + 1, p => if T p = nI 32 then tw T k (p + 1) else if T p = nI 10 then tw T k (p + 1) else p
def tl (T : Nat → Int32) : Nat → Nat → Nat
  | 0, p => p
  | k + 1, p => if g_Reader_isLetter (T p) = 0 then p else tl T k (p + 1)
def td (T : Nat → Int32) : Nat → Nat → Nat
  | 0, p => p
  | k + 1, p => if g_Reader_isDigit (T p) = 0 then p else td T k (p + 1)
def tv (T : Nat → Int32) : Nat → Nat → Nat → Nat
  | 0, _, v => v
  | k + 1, p, v => if g_Reader_isDigit (T p) = 0 then v else tv T k (p + 1) (10 * v + ((T p).toNatClampNeg - 48))
def kd (T : Nat → Int32) (t p : Nat) : Nat := if t ≤ p then 0 else if g_Reader_isLetter (T p) = 0 then (if g_Reader_isDigit (T p) = 0 then (if T p = nI 59 then 3 else 4) else 2) else 1
def nx (T : Nat → Int32) (t p : Nat) : Nat := if t ≤ p then p else if g_Reader_isLetter (T p) = 0 then (if g_Reader_isDigit (T p) = 0 then p + 1 else td T (t - p) p) else tl T (t - p) p
theorem nI_subN {a b : Nat} (h : b ≤ a) : nI a - nI b = nI (a - b) := by
  have e : nI a = nI (a - b) + nI b := by
    rw [nI_add]
    congr 1
    omega
  rw [e, Int32.add_sub_cancel]
theorem imn_N {a b : Nat} (ha : a < 2 ^ 31) (hb : b < 2 ^ 31) : imn (nI a) (nI b) = nI (min a b) := by
  rw [iI_nI a, iI_nI b, imn_iI (by omega) (by omega) (by omega) (by omega), iI_nI (min a b)]
  congr 1
  omega
theorem val_s {m v d : Nat} (hm : m ≤ 100000) (hm2 : 9 ≤ m) (hd : d ≤ 9) : imn (nI m) (nI 10 * nI (min m v) + nI (48 + d) - nI 48) = nI (min m (10 * v + d)) := by
  rw [pk_mul, nI_add, nI_subN (by omega), imn_N (by omega) (by omega)]
  congr 1
  omega
theorem x_let {t : Nat} (ht : t ≤ 1400) : ∀ (k f p : Nat) (D : mx_D), D 1 1 = nI t → D 3 4 = nI p → p + k = t → k < f → ∃ D1, g_Reader_advance_114 F f D = some D1 ∧ (∀ c, c ≠ 3 → D1 c = D c) ∧ (∀ j, j ≠ 4 → D1 3 j = D 3 j) ∧ D1 3 4 = nI (tl (D 2) k p) := by
  intro k
  induction k with
  | zero =>
    intro f p D h1 h4 hp hf
    obtain ⟨f, rfl⟩ : ∃ g, f = g + 1 := ⟨f - 1, by omega⟩
    rw [s_Reader_advance_114]
    unfold b_Reader_advance_114
    rw [h1, h4, if_pos (nI_le (by omega) (by omega))]
    exact ⟨D, rfl, fun _ _ => rfl, fun _ _ => rfl, h4⟩
  | succ k ih =>
    intro f p D h1 h4 hp hf
    obtain ⟨f, rfl⟩ : ∃ g, f = g + 1 := ⟨f - 1, by omega⟩
    have e : tl (D 2) (k + 1) p = if g_Reader_isLetter (D 2 p) = 0 then p else tl (D 2) k (p + 1) := rfl
    rw [s_Reader_advance_114]
    unfold b_Reader_advance_114
    rw [h1, h4, if_neg (nI_ge (show p < t by omega) (by omega)), rk_in (show p < 1400 by omega) (by decide), nI_clamp (by omega), nI_add, e]
    by_cases c : g_Reader_isLetter (D 2 p) = 0
    · rw [if_pos c, if_pos c]
      exact ⟨D, rfl, fun _ _ => rfl, fun _ _ => rfl, h4⟩
    · rw [if_neg c, if_neg c]
      obtain ⟨D1, a1, a2, a3, a4⟩ := ih f (p + 1) (sD D 3 4 (nI (p + 1))) (by rw [sD_ne _ _ _ _ (by decide)]; exact h1) (sD_eq _ _ _ _) (by omega) (by omega)
      refine ⟨D1, a1, fun c hc => by rw [a2 c hc, sD_nr _ _ _ hc], fun j hj => by rw [a3 j hj, sD_nj _ _ _ hj], ?_⟩
      rw [a4, sD_nr _ _ _ (by decide)]
theorem x_dgs {t : Nat} (ht : t ≤ 1400) : ∀ (k f p v : Nat) (D : mx_D), D 1 1 = nI t → D 3 4 = nI p → D 3 7 = nI (min 100000 v) → p + k = t → k < f → ∃ D1, g_Reader_advance_187 F f D = some D1 ∧ (∀ c, c ≠ 3 → D1 c = D c) ∧ (∀ j, j ≠ 4 → j ≠ 7 → D1 3 j = D 3 j) ∧ D1 3 4 = nI (td (D 2) k p) ∧ D1 3 7 = nI (min 100000 (tv (D 2) k p v)) := by
  intro k
  induction k with
  | zero =>
    intro f p v D h1 h4 h7 hp hf
    obtain ⟨f, rfl⟩ : ∃ g, f = g + 1 := ⟨f - 1, by omega⟩
    rw [s_Reader_advance_187]
    unfold b_Reader_advance_187
    rw [h1, h4, if_pos (nI_le (by omega) (by omega))]
    exact ⟨D, rfl, fun _ _ => rfl, fun _ _ _ => rfl, h4, h7⟩
  | succ k ih =>
    intro f p v D h1 h4 h7 hp hf
    obtain ⟨f, rfl⟩ : ∃ g, f = g + 1 := ⟨f - 1, by omega⟩
    have e : td (D 2) (k + 1) p = if g_Reader_isDigit (D 2 p) = 0 then p else td (D 2) k (p + 1) := rfl
    have e2 : tv (D 2) (k + 1) p v = if g_Reader_isDigit (D 2 p) = 0 then v else tv (D 2) k (p + 1) (10 * v + ((D 2 p).toNatClampNeg - 48)) := rfl
    rw [s_Reader_advance_187]
    unfold b_Reader_advance_187
    rw [h1, h4, if_neg (nI_ge (show p < t by omega) (by omega)), rk_in (show p < 1400 by omega) (by decide), rk_in (show p < 1400 by omega) (by decide), nI_clamp (by omega), e, e2]
    by_cases c : g_Reader_isDigit (D 2 p) = 0
    · rw [if_pos c, if_pos c, if_pos c]
      exact ⟨D, rfl, fun _ _ => rfl, fun _ _ _ => rfl, h4, h7⟩
    · obtain ⟨d, hd, ec⟩ := dig_of c
      rw [if_neg c, if_neg c, if_neg c, sD_nj _ _ _ (show 4 ≠ 7 by decide), h4, nI_add, h7, ec, val_s (by omega) (by omega) hd, nI_clamp (by omega)]
      obtain ⟨D1, a1, a2, a3, a4, a5⟩ := ih f (p + 1) (10 * v + d) (sD (sD D 3 7 (nI (min 100000 (10 * v + d)))) 3 4 (nI (p + 1))) (by rw [sD_ne _ _ _ _ (by decide), sD_ne _ _ _ _ (by decide)]; exact h1) (sD_eq _ _ _ _) (by rw [sD_nj _ _ _ (by decide), sD_eq]) (by omega) (by omega)
      have er : sD (sD D 3 7 (nI (min 100000 (10 * v + d)))) 3 4 (nI (p + 1)) 2 = D 2 := by rw [sD_nr _ _ _ (by decide), sD_nr _ _ _ (by decide)]
      rw [er] at a4 a5
      refine ⟨D1, a1, fun c hc => by rw [a2 c hc, sD_nr _ _ _ hc, sD_nr _ _ _ hc], fun j hj hj2 => by rw [a3 j hj hj2, sD_nj _ _ _ hj, sD_nj _ _ _ hj2], a4, ?_⟩
      rw [a5, show 48 + d - 48 = d by omega]
theorem x_adv (hF : 2000 ≤ F) {t p : Nat} (ht : t ≤ 1400) (h1 : D 1 1 = nI t) (h4 : D 3 4 = nI p) (hp : p ≤ t) : ∃ D1, g_Reader_advance F D = some D1 ∧ (∀ c, c ≠ 3 → D1 c = D c) ∧ (∀ j, j ≠ 4 → j ≠ 5 → j ≠ 6 → j ≠ 7 → D1 3 j = D 3 j) ∧ D1 3 4 = nI (nx (D 2) t (tw (D 2) (t - p) p)) ∧ D1 3 5 = nI (kd (D 2) t (tw (D 2) (t - p) p)) ∧ D1 3 6 = nI (tw (D 2) (t - p) p) ∧ (kd (D 2) t (tw (D 2) (t - p) p) = 2 → D1 3 7 = nI (min 100000 (tv (D 2) (t - tw (D 2) (t - p) p) (tw (D 2) (t - p) p) 0))) := by
  have rest : ∀ (p : Nat) (D : mx_D), D 1 1 = nI t → D 3 4 = nI p → p ≤ t → ∃ D1, b_Reader_advance_61 F D = some D1 ∧ (∀ c, c ≠ 3 → D1 c = D c) ∧ (∀ j, j ≠ 4 → j ≠ 5 → j ≠ 6 → j ≠ 7 → D1 3 j = D 3 j) ∧ D1 3 4 = nI (nx (D 2) t p) ∧ D1 3 5 = nI (kd (D 2) t p) ∧ D1 3 6 = nI p ∧ (kd (D 2) t p = 2 → D1 3 7 = nI (min 100000 (tv (D 2) (t - p) p 0))) := by
    intro p D h1 h4 hp
    have g1 : sD D 3 6 (D 3 4) 1 1 = nI t := by rw [sD_ne _ _ _ _ (by decide), h1]
    have g4 : sD D 3 6 (D 3 4) 3 4 = nI p := by rw [sD_nj _ _ _ (by decide), h4]
    have g2 : sD D 3 6 (D 3 4) 2 = D 2 := sD_nr _ _ _ (by decide)
    have g6 : sD D 3 6 (D 3 4) 3 6 = nI p := by rw [sD_eq, h4]
    have go : ∀ c, c ≠ 3 → sD D 3 6 (D 3 4) c = D c := fun c hc => sD_nr _ _ _ hc
    have gj : ∀ j, j ≠ 6 → sD D 3 6 (D 3 4) 3 j = D 3 j := fun j hj => sD_nj _ _ _ hj
    unfold b_Reader_advance_61 nx kd
    generalize sD D 3 6 (D 3 4) = G at g1 g4 g2 g6 go gj ⊢
    rw [g1, g4]
    by_cases c : t ≤ p
    · rw [if_neg (nI_nlt c (by omega)), if_pos c, if_pos c]
      refine ⟨_, rfl, fun z hz => by rw [sD_nr _ _ _ hz, go z hz], fun j j4 j5 j6 j7 => by rw [sD_nj _ _ _ j5, gj j j6], by rw [sD_nj _ _ _ (by decide), g4], sD_eq _ _ _ _, by rw [sD_nj _ _ _ (by decide), g6], fun e => absurd e (by decide)⟩
    · rw [if_pos (nI_lt (by omega) (by omega)), rk_in (show p < 1400 by omega) (by decide), rk_in (show p < 1400 by omega) (by decide), rk_in (show p < 1400 by omega) (by decide), nI_clamp (by omega), g2, if_neg c, if_neg c]
      by_cases c1 : g_Reader_isLetter (D 2 p) = 0
      · rw [if_pos c1, if_pos c1, if_pos c1]
        by_cases c2 : g_Reader_isDigit (D 2 p) = 0
        · rw [if_pos c2, if_pos c2, if_pos c2]
          by_cases c3 : D 2 p = nI 59
          · rw [if_pos c3, if_pos c3]
            refine ⟨_, rfl, fun z hz => by rw [sD_nr _ _ _ hz, sD_nr _ _ _ hz, go z hz], fun j j4 j5 j6 j7 => by rw [sD_nj _ _ _ j4, sD_nj _ _ _ j5, gj j j6], ?_, ?_, ?_, fun e => absurd e (by decide)⟩
            · rw [sD_eq, sD_nj _ _ _ (by decide), g4, nI_add]
            · rw [sD_nj _ _ _ (by decide), sD_eq]
            · rw [sD_nj _ _ _ (by decide), sD_nj _ _ _ (by decide), g6]
          · rw [if_neg c3, if_neg c3]
            refine ⟨_, rfl, fun z hz => by rw [sD_nr _ _ _ hz, sD_nr _ _ _ hz, go z hz], fun j j4 j5 j6 j7 => by rw [sD_nj _ _ _ j4, sD_nj _ _ _ j5, gj j j6], ?_, ?_, ?_, fun e => absurd e (by decide)⟩
            · rw [sD_eq, sD_nj _ _ _ (by decide), g4, nI_add]
            · rw [sD_nj _ _ _ (by decide), sD_eq]
            · rw [sD_nj _ _ _ (by decide), sD_nj _ _ _ (by decide), g6]
        · rw [if_neg c2, if_neg c2, if_neg c2]
          obtain ⟨D1, a1, a2, a3, a4, a5⟩ := x_dgs (F := F) ht (t - p) F p 0 (sD (sD G 3 5 (nI 2)) 3 7 (nI 0)) (by rw [sD_ne _ _ _ _ (by decide), sD_ne _ _ _ _ (by decide), g1]) (by rw [sD_nj _ _ _ (by decide), sD_nj _ _ _ (by decide), g4]) (by rw [sD_eq]; rfl) (by omega) (by omega)
          have er : sD (sD G 3 5 (nI 2)) 3 7 (nI 0) 2 = D 2 := by rw [sD_nr _ _ _ (by decide), sD_nr _ _ _ (by decide), g2]
          rw [er] at a4 a5
          refine ⟨D1, a1, fun z hz => by rw [a2 z hz, sD_nr _ _ _ hz, sD_nr _ _ _ hz, go z hz], fun j j4 j5 j6 j7 => by rw [a3 j j4 j7, sD_nj _ _ _ j7, sD_nj _ _ _ j5, gj j j6], a4, ?_, ?_, fun _ => a5⟩
          · rw [a3 5 (by decide) (by decide), sD_nj _ _ _ (by decide), sD_eq]
          · rw [a3 6 (by decide) (by decide), sD_nj _ _ _ (by decide), sD_nj _ _ _ (by decide), g6]
      · rw [if_neg c1, if_neg c1, if_neg c1]
        obtain ⟨D1, a1, a2, a3, a4⟩ := x_let (F := F) ht (t - p) F p (sD G 3 5 (nI 1)) (by rw [sD_ne _ _ _ _ (by decide), g1]) (by rw [sD_nj _ _ _ (by decide), g4]) (by omega) (by omega)
        have er : sD G 3 5 (nI 1) 2 = D 2 := by rw [sD_nr _ _ _ (by decide), g2]
        rw [er] at a4
        refine ⟨D1, a1, fun z hz => by rw [a2 z hz, sD_nr _ _ _ hz, go z hz], fun j j4 j5 j6 j7 => by rw [a3 j j4, sD_nj _ _ _ j5, gj j j6], a4, ?_, ?_, fun e => absurd e (by decide)⟩
        · rw [a3 5 (by decide), sD_eq]
        · rw [a3 6 (by decide), sD_nj _ _ _ (by decide), g6]
  have key : ∀ (k f p : Nat) (D : mx_D), D 1 1 = nI t → D 3 4 = nI p → p + k = t → k < f → ∃ D1, g_Reader_advance_0 F f D = some D1 ∧ (∀ c, c ≠ 3 → D1 c = D c) ∧ (∀ j, j ≠ 4 → j ≠ 5 → j ≠ 6 → j ≠ 7 → D1 3 j = D 3 j) ∧ D1 3 4 = nI (nx (D 2) t (tw (D 2) k p)) ∧ D1 3 5 = nI (kd (D 2) t (tw (D 2) k p)) ∧ D1 3 6 = nI (tw (D 2) k p) ∧ (kd (D 2) t (tw (D 2) k p) = 2 → D1 3 7 = nI (min 100000 (tv (D 2) (t - tw (D 2) k p) (tw (D 2) k p) 0))) := by
    intro k
    induction k with
    | zero =>
      intro f p D h1 h4 hp hf
      obtain ⟨f, rfl⟩ : ∃ g, f = g + 1 := ⟨f - 1, by omega⟩
      rw [s_Reader_advance_0]
      unfold b_Reader_advance_0
      rw [h1, h4, if_pos (nI_le (by omega) (by omega))]
      exact rest p D h1 h4 (by omega)
    | succ k ih =>
      intro f p D h1 h4 hp hf
      obtain ⟨f, rfl⟩ : ∃ g, f = g + 1 := ⟨f - 1, by omega⟩
      have e : tw (D 2) (k + 1) p = if D 2 p = nI 32 then tw (D 2) k (p + 1) else if D 2 p = nI 10 then tw (D 2) k (p + 1) else p := rfl
      have nxt := ih f (p + 1) (sD D 3 4 (nI (p + 1))) (by rw [sD_ne _ _ _ _ (by decide)]; exact h1) (sD_eq _ _ _ _) (by omega) (by omega)
      rw [sD_nr _ _ _ (show 2 ≠ 3 by decide)] at nxt
      obtain ⟨D1, a1, a2, a3, a4, a5, a6, a7⟩ := nxt
      rw [s_Reader_advance_0]
      unfold b_Reader_advance_0
      rw [h1, h4, if_neg (nI_ge (show p < t by omega) (by omega)), rk_in (show p < 1400 by omega) (by decide), rk_in (show p < 1400 by omega) (by decide), nI_clamp (by omega), nI_add, e]
      by_cases c : D 2 p = nI 32
      · rw [if_pos c, if_pos c]
        exact ⟨D1, a1, fun z hz => by rw [a2 z hz, sD_nr _ _ _ hz], fun j j4 j5 j6 j7 => by rw [a3 j j4 j5 j6 j7, sD_nj _ _ _ j4], a4, a5, a6, a7⟩
      · rw [if_neg c, if_neg c]
        by_cases c2 : D 2 p = nI 10
        · rw [if_pos c2, if_pos c2]
          exact ⟨D1, a1, fun z hz => by rw [a2 z hz, sD_nr _ _ _ hz], fun j j4 j5 j6 j7 => by rw [a3 j j4 j5 j6 j7, sD_nj _ _ _ j4], a4, a5, a6, a7⟩
        · rw [if_neg c2, if_neg c2]
          exact rest p D h1 h4 (by omega)
  exact key (t - p) F p D h1 h4 (by omega) (by omega)
end TK
