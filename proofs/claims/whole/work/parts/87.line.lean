/-! ===== both readers in step: lines ===== -/
section LI
variable {D D' D0 : mx_D} {F : Nat}
def XH (D D1 : mx_D) : Prop := (∀ c, c < 3 ∨ 18 < c → D1 c = D c) ∧ MO D D1
def MG (D D1 : mx_D) : Prop := (∀ c, c ≠ 116 → c ≠ 122 → D1 c = D c) ∧ (∀ j, j < 8 ∨ 13 < j → D1 116 j = D 116 j) ∧ (D1 116 12 = 0 → D 116 12 = 0)
/-- within a line: readers move, what is read is written -/
def LN (D D' D1 D1' : mx_D) (t : Nat) : Prop := S2 D1 D1' t ∧ XH D D1 ∧ MG D' D1'
theorem LN_r {t : Nat} (h : S2 D D' t) : LN D D' D D' t := ⟨h, ⟨fun _ _ => rfl, Int.le_refl _⟩, fun _ _ _ => rfl, fun _ _ => rfl, fun e => e⟩
theorem LN_k {D1 D1' : mx_D} {t : Nat} (h : LK D D' D1 D1' t) : LN D D' D1 D1' t :=
  ⟨h.1, ⟨fun c hc => h.2.1 c (by omega), h.2.2.2⟩, fun c q1 q2 => h.2.2.1.1 c q1, fun j hj => h.2.2.1.2.1 j hj, MF_g h.2.2.1⟩
theorem LN_t {D1 D1' D2 D2' : mx_D} {t : Nat} (h : LN D D' D1 D1' t) (h2 : LN D1 D1' D2 D2' t) : LN D D' D2 D2' t :=
  ⟨h2.1, ⟨fun c hc => (h2.2.1.1 c hc).trans (h.2.1.1 c hc), MO_t h.2.1.2 h2.2.1.2⟩, fun c q1 q2 => (h2.2.2.1 c q1 q2).trans (h.2.2.1 c q1 q2), fun j hj => (h2.2.2.2.1 j hj).trans (h.2.2.2.1 j hj), fun e => h.2.2.2.2 (h2.2.2.2.2 e)⟩
theorem LN_w {D1 D1' D2 D2' : mx_D} {t : Nat} (h : LN D D' D1 D1' t) (e : ∀ c, c < 4 ∨ 18 < c → D2 c = D1 c) (e' : ∀ c, c ≠ 122 → D2' c = D1' c) : LN D D' D2 D2' t := by
  have e3 := e 3 (by omega)
  have e116 := e' 116 (by decide)
  refine ⟨S2_w h.1 (e 1 (by omega)) (e 2 (by omega)) e3 e116 (e' 120 (by decide)), ⟨fun c hc => (e c (by omega)).trans (h.2.1.1 c hc), ?_⟩, fun c q1 q2 => (e' c q2).trans (h.2.2.1 c q1 q2), fun j hj => ?_, fun z => ?_⟩
  · have := h.2.1.2
    unfold MO at this ⊢
    rw [e3]
    exact this
  · rw [e116]
    exact h.2.2.2.1 j hj
  · rw [e116] at z
    exact h.2.2.2.2 z
theorem good_1 (g : D 116 12 = 0) : g_M_good D = nI 1 := by unfold g_M_good; rw [if_pos g]
theorem good_0 (g : ¬ D 116 12 = 0) : g_M_good D = nI 0 := by unfold g_M_good; rw [if_neg g]
theorem z1 : ¬ nI 1 = 0 := by decide
theorem z0 : nI 0 = 0 := rfl
theorem zb0 : b01 false = 0 := rfl
theorem zb1 : ¬ b01 true = 0 := by decide
/-- one less -/
theorem dec_t {n : Nat} (h : n ≤ 1000) : (nI n - nI 1).toInt = (n : Int) - 1 := by
  rw [iI_nI n, iI_nI 1, iI_sub, iI_to (by omega) (by omega)]
  omega
theorem dec_of {n : Nat} (h : n ≤ 1000) {r : Int32} (h0 : nI 0 ≤ r) (h1 : r ≤ nI n - nI 1) : ∃ j, j < n ∧ r = nI j := by
  rw [Int32.le_iff_toInt_le, dec_t h] at h1
  rw [Int32.le_iff_toInt_le, nI_toInt (by omega)] at h0
  refine ⟨r.toInt.toNat, by omega, ?_⟩
  rw [iI_nI, show ((r.toInt.toNat : Nat) : Int) = r.toInt by omega]
  exact (iI_at r).symm
theorem le_t {a b : Nat} {r : Int32} (ha : a < 2 ^ 31) (hb : b < 2 ^ 31) (h0 : nI a ≤ r) (h1 : r ≤ nI b) : (a : Int) ≤ r.toInt ∧ r.toInt ≤ b := by
  rw [Int32.le_iff_toInt_le, nI_toInt (by omega)] at h0 h1
  exact ⟨h0, h1⟩
/-- what a line gives where there's no fault -/
def PO (D' D1 D1' : mx_D) : Prop := D1' 116 12 = 0 → DT D1 (D1' 122) ∧ D1' 122 7 = D' 122 7 ∧ 0 < nP (D1' 122)
theorem DT_LK {D1 D1' : mx_D} {t : Nat} (h : DT D (D' 122)) (l : LK D D' D1 D1' t) : DT D1 (D1' 122) := by
  rw [MF_122 l.2.2.1]
  exact DT_x h (fun c q1 q2 => l.2.1 c (by omega))
/-- a place of the church that is read: its bound -/
theorem bd_0 {w : W_} (h : DT D w) : D 4 0 = w 0 := h.1.1.1
theorem bd_1 {w : W_} (h : DT D w) : D 4 1 = w 1 := h.1.1.2.1
theorem bd_4 {w : W_} (h : DT D w) : D 9 6 = w 4 := h.1.1.2.2.2.2.2.2.2
theorem bd_5 {w : W_} (h : DT D w) : D 4 10 = w 5 := h.1.1.2.2.2.2.2.1
theorem bd_6 {w : W_} (h : DT D w) : D 4 12 = w 6 := h.1.1.2.2.2.2.2.2.1
theorem nw_P {D1' : mx_D} (e : D1' 122 = D' 122) : nP (D1' 122) = nP (D' 122) := by rw [e]
theorem head_LN (hF : 2000 ≤ F) {t : Nat} (h : S2 D D' t) (h3 : D' 122 3 = nI 0) : ∃ D1 D1', g_Reader_readHead F D = some D1 ∧ g_M_readFirst F D' = some D1' ∧ LN D D' D1 D1' t ∧ (D1' 116 12 = 0 → ∃ a b c v : Int32, (nI 1 ≤ a ∧ a ≤ nI 4) ∧ (nI 1 ≤ b ∧ b ≤ nI 5) ∧ (nI 0 ≤ c ∧ c ≤ nI 30) ∧ (v = nI 0 ∨ v = nI 1) ∧ (D1 4 0 = a ∧ D1 4 1 = b ∧ D1 4 2 = c ∧ D1 4 3 = v) ∧ (∀ j, 3 < j → D1 4 j = D 4 j) ∧ (∀ k, 4 < k → k ≤ 18 → D1 k = D k) ∧ (D1' 122 0 = a ∧ D1' 122 1 = b ∧ D1' 122 2 = c ∧ D1' 122 3 = v) ∧ ∀ j, 3 < j → D1' 122 j = D' 122 j) := by
  obtain ⟨A1, A1', a1, a2, a3⟩ := word_LK hF (w := 1000) (by decide) (by decide) h
  obtain ⟨B0, ra, ra', B1, B1', b1, b2, b3, b4, b5⟩ := told_LK hF (w := 1001) (by decide) (by decide) a3.1 (a := nI 1) (b := nI 4) (by decide)
  have lb := LN_w (LN_t (LN_k a3) (LN_k b4)) (D2 := sD B1 4 0 ra) (D2' := sD B1' 122 0 ra') (fun c hc => sD_nr _ _ _ (by omega)) (fun c hc => sD_nr _ _ _ hc)
  obtain ⟨C0, rb, rb', C1, C1', c1, c2, c3, c4, c5⟩ := told_LK hF (w := 1002) (by decide) (by decide) lb.1 (a := nI 1) (b := nI 5) (by decide)
  have lc := LN_w (LN_t lb (LN_k c4)) (D2 := sD C1 4 1 rb) (D2' := sD C1' 122 1 rb') (fun c hc => sD_nr _ _ _ (by omega)) (fun c hc => sD_nr _ _ _ hc)
  obtain ⟨E0, rc, rc', E1, E1', d1, d2, d3, d4, d5⟩ := told_LK hF (w := 1003) (by decide) (by decide) lc.1 (a := nI 0) (b := nI 30) (by decide)
  have ld := LN_w (LN_t lc (LN_k d4)) (D2 := sD E1 4 2 rc) (D2' := sD E1' 122 2 rc') (fun c hc => sD_nr _ _ _ (by omega)) (fun c hc => sD_nr _ _ _ hc)
  obtain ⟨G1, G1', e1, e2, e3⟩ := word_LK hF (w := 1004) (by decide) (by decide) ld.1
  have le := LN_t ld (LN_k e3)
  obtain ⟨x, x', f1, f2, f3, f4⟩ := isW_ST hF le.1.1 (w := 1005) (by decide) (by decide)
  have lf := LN_w le (D2 := sD G1 4 3 (b01 x)) (D2' := G1') (fun c hc => sD_nr _ _ _ (by omega)) (fun c hc => rfl)
  /- what stands where no fault is -/
  have post : ∀ (H1 H1' : mx_D) (v : Int32), LK (sD G1 4 3 (b01 x)) G1' H1 H1' t → (v = nI 0 ∨ v = nI 1) → ∀ K1' : mx_D, K1' 116 = H1' 116 → (∀ j, j ≠ 3 → K1' 122 j = H1' 122 j) → (H1' 116 12 = 0 → v = b01 x ∧ K1' 122 3 = v) → K1' 116 12 = 0 → ∃ a b c v : Int32, (nI 1 ≤ a ∧ a ≤ nI 4) ∧ (nI 1 ≤ b ∧ b ≤ nI 5) ∧ (nI 0 ≤ c ∧ c ≤ nI 30) ∧ (v = nI 0 ∨ v = nI 1) ∧ (H1 4 0 = a ∧ H1 4 1 = b ∧ H1 4 2 = c ∧ H1 4 3 = v) ∧ (∀ j, 3 < j → H1 4 j = D 4 j) ∧ (∀ k, 4 < k → k ≤ 18 → H1 k = D k) ∧ (K1' 122 0 = a ∧ K1' 122 1 = b ∧ K1' 122 2 = c ∧ K1' 122 3 = v) ∧ ∀ j, 3 < j → K1' 122 j = D' 122 j := fun H1 H1' v lk hv K1' k1 k2 k3 g => by
    rw [k1] at g
    obtain ⟨v1, v2⟩ := k3 g
    have gG : G1' 116 12 = 0 := MF_g lk.2.2.1 g
    have gE : E1' 116 12 = 0 := by
      have := MF_g e3.2.2.1 gG
      rw [sD_ne _ _ _ _ (by decide)] at this
      exact this
    have gC : C1' 116 12 = 0 := by
      have := MF_g d4.2.2.1 gE
      rw [sD_ne _ _ _ _ (by decide)] at this
      exact this
    have gB : B1' 116 12 = 0 := by
      have := MF_g c4.2.2.1 gC
      rw [sD_ne _ _ _ _ (by decide)] at this
      exact this
    obtain ⟨rfl, p2, p3⟩ := b5 gB
    obtain ⟨rfl, p5, p6⟩ := c5 gC
    obtain ⟨rfl, p8, p9⟩ := d5 gE
    have m1 := MF_122 lk.2.2.1
    have m2 := MF_122 e3.2.2.1
    have m3 := MF_122 d4.2.2.1
    have m4 := MF_122 c4.2.2.1
    have m5 := MF_122 b4.2.2.1
    have m6 := MF_122 a3.2.2.1
    have n1 := lk.2.1 4 (by decide)
    have n2 := e3.2.1 4 (by decide)
    have n3 := d4.2.1 4 (by decide)
    have n4 := c4.2.1 4 (by decide)
    have n5 := b4.2.1 4 (by decide)
    have n6 := a3.2.1 4 (by decide)
    refine ⟨ra, rb, rc, v, ⟨p2, p3⟩, ⟨p5, p6⟩, ⟨p8, p9⟩, hv, ⟨?_, ?_, ?_, ?_⟩, fun j hj => ?_, fun k q1 q2 => ?_, ⟨?_, ?_, ?_, v2⟩, fun j hj => ?_⟩
    · rw [n1, sD_nj _ _ _ (by decide), n2, sD_nj _ _ _ (by decide), n3, sD_nj _ _ _ (by decide), n4, sD_eq]
    · rw [n1, sD_nj _ _ _ (by decide), n2, sD_nj _ _ _ (by decide), n3, sD_eq]
    · rw [n1, sD_nj _ _ _ (by decide), n2, sD_eq]
    · rw [n1, sD_eq, v1]
    · rw [n1, sD_nj _ _ _ (by omega), n2, sD_nj _ _ _ (by omega), n3, sD_nj _ _ _ (by omega), n4, sD_nj _ _ _ (by omega), n5, n6]
    · rw [lk.2.1 k (by omega), sD_nr _ _ _ (by omega), e3.2.1 k (by omega), sD_nr _ _ _ (by omega), d4.2.1 k (by omega), sD_nr _ _ _ (by omega), c4.2.1 k (by omega), sD_nr _ _ _ (by omega), b4.2.1 k (by omega), a3.2.1 k (by omega)]
    · rw [k2 0 (by decide), m1, m2, sD_nj _ _ _ (by decide), m3, sD_nj _ _ _ (by decide), m4, sD_eq]
    · rw [k2 1 (by decide), m1, m2, sD_nj _ _ _ (by decide), m3, sD_eq]
    · rw [k2 2 (by decide), m1, m2, sD_eq]
    · rw [k2 j (by omega), m1, m2, sD_nj _ _ _ (by omega), m3, sD_nj _ _ _ (by omega), m4, sD_nj _ _ _ (by omega), m5, m6]
  unfold g_Reader_readHead g_M_readFirst
  rw [a1, a2, ob_some, ob_some, b1, ob_some, b2, ob_some, b3, ob_some, c1, ob_some, c2, ob_some, c3, ob_some, d1, ob_some, d2, ob_some, d3, ob_some, e1, e2, ob_some, ob_some, f1, ob_some, zk_b, sD_eq]
  have w3 : G1' 122 3 = nI 0 := by
    rw [MF_122 e3.2.2.1, sD_nj _ _ _ (by decide), MF_122 d4.2.2.1, sD_nj _ _ _ (by decide), MF_122 c4.2.2.1, sD_nj _ _ _ (by decide), MF_122 b4.2.2.1, MF_122 a3.2.2.1]
    exact h3
  by_cases g : G1' 116 12 = 0
  · have hx := f3 g
    subst hx
    cases x
    · rw [if_pos zb0]
      obtain ⟨H1, H1', h1, h2, h4⟩ := word_LK hF (w := 1006) (by decide) (by decide) lf.1
      rw [takes_no f2, ob_some, if_pos zb0, h1, h2, ob_some, ob_some]
      exact ⟨H1, H1', rfl, rfl, LN_t lf (LN_k h4), post H1 H1' (nI 0) h4 (Or.inl rfl) H1' rfl (fun _ _ => rfl) (fun _ => ⟨rfl, by rw [MF_122 h4.2.2.1]; exact w3⟩)⟩
    · rw [if_neg zb1]
      obtain ⟨H1, H1', h1, h2, h4, h5, h6⟩ := start_LK hF (w := 1005) (by decide) (by decide) lf.1 g f2
      rw [h2, ob_some, if_neg zb1, h1, ob_some]
      exact ⟨H1, _, rfl, rfl, LN_w (LN_t lf (LN_k h5)) (fun _ _ => rfl) (fun c hc => sD_nr _ _ _ hc), post H1 H1' (nI 1) h5 (Or.inr rfl) _ (sD_nr _ _ _ (by decide)) (fun j hj => sD_nj _ _ _ hj) (fun _ => ⟨rfl, sD_eq _ _ _ _⟩)⟩
  · have hx := f4 g
    subst hx
    rw [takes_no f2, ob_some, if_pos zb0, needs_B (by decide) (by decide) hF g, ob_some]
    cases x
    · rw [if_pos zb0]
      obtain ⟨H1, h1, h4⟩ := word_B hF (w := 1006) (by decide) (by decide) lf.1 g
      rw [h1, ob_some]
      exact ⟨H1, G1', rfl, rfl, LN_t lf (LN_k h4), fun e => absurd e g⟩
    · rw [if_neg zb1]
      obtain ⟨H1, h1, h4⟩ := word_B hF (w := 1005) (by decide) (by decide) lf.1 g
      rw [h1, ob_some]
      exact ⟨H1, G1', rfl, rfl, LN_t lf (LN_k h4), fun e => absurd e g⟩
theorem pew2_LN (hF : 2000 ≤ F) {t s1 : Nat} (e0 : g_Reader_takeWord F s1 D0 = some D) (h : S2 D D' t) {l1 l1' l2 l2' : Int32} (hg : D' 116 12 = 0 → l1 = l1' ∧ (∃ p, p < nP (D' 122) ∧ l1 = nI p) ∧ l2 = l2' ∧ DT D (D' 122)) : ∃ D1 D1', b_Reader_readPew_40 F l1 l2 s1 D0 = some D1 ∧ b_M_readPew_31 F l1' l2' D' = some D1' ∧ LN D D' D1 D1' t ∧ PO D' D1 D1' := by
  obtain ⟨r, r', A1, A1', a1, a2, a3, a4, a5, a6⟩ := num_LK hF h (a := nI 0) (b := nI 40) (a' := nI 0) (b' := nI 40) (fun _ => ⟨rfl, rfl, by decide⟩)
  obtain ⟨B0, s, s', B1, B1', b1, b2, b3, b4, b5⟩ := told_LK hF (w := 1010) (by decide) (by decide) a3.1 (a := nI 0) (b := nI 9) (by decide)
  have lb := LK_t a3 b4
  unfold b_Reader_readPew_40 b_M_readPew_31
  rw [e0, ob_some, a1, ob_some, a2, ob_some, b1, ob_some, b2, ob_some, b3, ob_some]
  by_cases g : B1' 116 12 = 0
  · obtain ⟨rfl, ⟨p, hp, rfl⟩, rfl, hD⟩ := hg (MF_g lb.2.2.1 g)
    obtain ⟨rfl, p2, p3, -, -⟩ := a5 (MF_g b4.2.2.1 g)
    obtain ⟨rfl, p5, p6⟩ := b5 g
    have hp4 := wf_P4 hD.2.1
    have r1 := le_t (by decide) (by decide) p2 p3
    have r2 := le_t (by decide) (by decide) p5 p6
    have hDB := DT_LK hD lb
    have e122 := MF_122 lb.2.2.1
    rw [good_1 g, if_neg z1, if_pos (lb.1.1.1.trans g)]
    simp only [rk_in (show p < 4 by omega) (show 4 < 2 ^ 31 by decide), nI_clamp (show p < 2 ^ 31 by omega)]
    have fin : ∀ u : Int32, -40 ≤ u.toInt ∧ u.toInt ≤ 40 → ∃ D1 D1', some (sD (sD B1 5 p u) 6 p s) = some D1 ∧ b_M_readPew_80 F (nI p) s (nI 8 + nI 3 * nI p + nI 0) u B1' = some D1' ∧ LN D D' D1 D1' t ∧ PO D' D1 D1' := fun u hu => by
      unfold b_M_readPew_80
      rw [pk_mul, nI_add, nI_add, nI_add, rk_in (by omega) (by decide), rk_in (by omega) (by decide), nI_clamp (by omega), nI_clamp (by omega)]
      refine ⟨_, _, rfl, rfl, LN_w (LN_k lb) (fun c hc => by rw [sD_nr _ _ _ (by omega), sD_nr _ _ _ (by omega)]) (fun c hc => by rw [sD_nr _ _ _ hc, sD_nr _ _ _ hc]), fun _ => ?_⟩
      rw [sD_row, sD_row]
      have hp' : p < nP (B1' 122) := by rw [e122]; exact hp
      refine ⟨DT_pew hDB hp' hu ⟨r2.1, r2.2⟩, ?_, ?_⟩
      · rw [upd_ne _ _ (by omega), upd_ne _ _ (by omega), e122]
      · unfold nP
        rw [upd_ne _ _ (by omega), upd_ne _ _ (by omega)]
        exact Nat.lt_of_le_of_lt (Nat.zero_le p) hp'
    by_cases c : l2 = 0
    · rw [if_pos c, if_pos c]
      exact fin r ⟨by omega, by omega⟩
    · rw [if_neg c, if_neg c]
      refine fin (-r) ?_
      have : -r = iI (-r.toInt) := by rw [← iI_neg, iI_at]
      rw [this, iI_to (by omega) (by omega)]
      omega
  · rw [good_0 g, if_pos z0, if_neg (fun e => g (lb.1.1.1.symm.trans e))]
    exact ⟨B1, B1', rfl, rfl, LN_k lb, fun e => absurd e g⟩
theorem pew_LN (hF : 2000 ≤ F) {t : Nat} (e0 : g_Reader_takeWord F 1007 D0 = some D) (h : S2 D D' t) (hD : DT D (D' 122)) : ∃ D1 D1', g_Reader_readPew F D0 = some D1 ∧ g_M_readPew F D' = some D1' ∧ LN D D' D1 D1' t ∧ PO D' D1 D1' := by
  have hP := wf_P4 hD.2.1
  obtain ⟨r, r', A1, A1', a1, a2, a3, a4, a5, a6⟩ := num_LK hF h (a := nI 0) (b := D 4 0 - nI 1) (a' := nI 0) (b' := D' 122 0 - nI 1) (fun _ => ⟨rfl, by rw [bd_0 hD], by rw [bd_0 hD, wf_P hD.2.1, dec_t (by omega)]; omega⟩)
  obtain ⟨x, x', f1, f2, f3, f4⟩ := isW_ST hF a3.1.1 (w := 1008) (by decide) (by decide)
  have e122 := MF_122 a3.2.2.1
  have hb : A1' 116 12 = 0 → r = r' ∧ ∃ p, p < nP (D' 122) ∧ r = nI p := fun g => by
    obtain ⟨q1, q2, q3, q4, q5⟩ := a5 g
    rw [bd_0 hD, wf_P hD.2.1] at q3
    exact ⟨q1, dec_of (by omega) q2 q3⟩
  have hDA := DT_LK hD a3
  have po : ∀ {G1 : mx_D} {G' G1' : mx_D}, G' 122 = D' 122 → PO G' G1 G1' → PO D' G1 G1' := fun e hp g => by
    obtain ⟨q1, q2, q3⟩ := hp g
    exact ⟨q1, by rw [q2, e], q3⟩
  unfold g_Reader_readPew g_M_readPew
  rw [e0, ob_some, a1, ob_some, a2, ob_some, f1, ob_some]
  by_cases g : A1' 116 12 = 0
  · obtain ⟨rfl, p, hp, rfl⟩ := hb g
    have hx := f3 g
    subst hx
    cases x
    · rw [if_pos zb0, takes_no f2, ob_some, if_pos zb0]
      obtain ⟨H1, H1', h1, h2, h4⟩ := word_LK hF (w := 1009) (by decide) (by decide) a3.1
      rw [h2, ob_some]
      obtain ⟨K1, K1', k1, k2, k3, k4⟩ := pew2_LN hF h1 h4.1 (l1 := nI p) (l1' := nI p) (l2 := b01 false) (l2' := b01 false) (fun _ => ⟨rfl, ⟨p, by rw [MF_122 h4.2.2.1, e122]; exact hp, rfl⟩, rfl, DT_LK hDA h4⟩)
      exact ⟨K1, K1', k1, k2, LN_t (LN_k (LK_t a3 h4)) k3, po (by rw [MF_122 h4.2.2.1, e122]) k4⟩
    · obtain ⟨H1, H1', h1, h2, h4, h5, h6⟩ := start_LK hF (w := 1008) (by decide) (by decide) a3.1 g f2
      rw [if_neg zb1, h2, ob_some, if_neg zb1]
      obtain ⟨K1, K1', k1, k2, k3, k4⟩ := pew2_LN hF h1 h5.1 (l1 := nI p) (l1' := nI p) (l2 := b01 true) (l2' := b01 true) (fun _ => ⟨rfl, ⟨p, by rw [MF_122 h5.2.2.1, e122]; exact hp, rfl⟩, rfl, DT_LK hDA h5⟩)
      exact ⟨K1, K1', k1, k2, LN_t (LN_k (LK_t a3 h5)) k3, po (by rw [MF_122 h5.2.2.1, e122]) k4⟩
  · have hx := f4 g
    subst hx
    rw [takes_no f2, ob_some, if_pos zb0, needs_B (by decide) (by decide) hF g, ob_some]
    cases x
    · rw [if_pos zb0]
      obtain ⟨H1, h1, h4⟩ := word_B hF (w := 1009) (by decide) (by decide) a3.1 g
      obtain ⟨K1, K1', k1, k2, k3, k4⟩ := pew2_LN hF h1 h4.1 (l1 := r) (l1' := r') (l2 := b01 false) (l2' := b01 false) (fun e => absurd e g)
      exact ⟨K1, K1', k1, k2, LN_t (LN_k (LK_t a3 h4)) k3, po e122 k4⟩
    · rw [if_neg zb1]
      obtain ⟨H1, h1, h4⟩ := word_B hF (w := 1008) (by decide) (by decide) a3.1 g
      obtain ⟨K1, K1', k1, k2, k3, k4⟩ := pew2_LN hF h1 h4.1 (l1 := r) (l1' := r') (l2 := b01 true) (l2' := b01 false) (fun e => absurd e g)
      exact ⟨K1, K1', k1, k2, LN_t (LN_k (LK_t a3 h4)) k3, po e122 k4⟩
theorem tren_LN (hF : 2000 ≤ F) {t : Nat} (e0 : g_Reader_takeWord F 1011 D0 = some D) (h : S2 D D' t) (hD : DT D (D' 122)) : ∃ D1 D1', g_Reader_readTrench F D0 = some D1 ∧ g_M_readTrench F D' = some D1' ∧ LN D D' D1 D1' t ∧ PO D' D1 D1' := by
  have hP := wf_P4 hD.2.1
  have hL := wf_L5 hD.2.1
  obtain ⟨r, r', A1, A1', a1, a2, a3, a4, a5, a6⟩ := num_LK hF h (a := nI 0) (b := D 4 0 - nI 1) (a' := nI 0) (b' := D' 122 0 - nI 1) (fun _ => ⟨rfl, by rw [bd_0 hD], by rw [bd_0 hD, wf_P hD.2.1, dec_t (by omega)]; omega⟩)
  have hDA := DT_LK hD a3
  have eA := MF_122 a3.2.2.1
  obtain ⟨s, s', B1, B1', b1, b2, b3, b4, b5, b6⟩ := num_LK hF a3.1 (a := nI 0) (b := A1 4 1 - nI 1) (a' := nI 0) (b' := A1' 122 1 - nI 1) (fun _ => ⟨rfl, by rw [bd_1 hDA], by rw [bd_1 hDA, eA, wf_L hD.2.1, dec_t (by omega)]; omega⟩)
  have lb := LK_t a3 b3
  obtain ⟨v, v', C1, C1', c1, c2, c3, c4, c5, c6⟩ := num_LK hF b3.1 (a := nI 1) (b := nI 60) (a' := nI 1) (b' := nI 60) (fun _ => ⟨rfl, rfl, by decide⟩)
  have lc := LK_t lb c3
  have hDC := DT_LK hD lc
  have eC := MF_122 lc.2.2.1
  unfold g_Reader_readTrench g_M_readTrench
  rw [e0, ob_some, a1, ob_some, a2, ob_some, b1, ob_some, b2, ob_some, c1, ob_some, c2, ob_some]
  by_cases g : C1' 116 12 = 0
  · have gB := MF_g c3.2.2.1 g
    have gA := MF_g b3.2.2.1 gB
    obtain ⟨rfl, q2, q3, -, -⟩ := a5 gA
    obtain ⟨rfl, q5, q6, -, -⟩ := b5 gB
    obtain ⟨rfl, q8, q9, -, -⟩ := c5 g
    rw [bd_0 hD, wf_P hD.2.1] at q3
    rw [bd_1 hDA, eA, wf_L hD.2.1] at q6
    obtain ⟨p, hp, rfl⟩ := dec_of (by omega) q2 q3
    obtain ⟨i, hi, rfl⟩ := dec_of (by omega) q5 q6
    have r1 := le_t (by decide) (by decide) q8 q9
    rw [good_1 g, if_neg z1, if_pos (lc.1.1.1.trans g)]
    unfold g_Church_dig_4
    rw [hasPlace_4, C_hasPlace_s (CC_sh hDC.1) hDC.2.1, eC, vx_nI (by omega), vx_nI (by omega), decide_eq_true hp, decide_eq_true hi, if_neg (show ¬ b01 (true && true) = 0 by decide), pk_mul, pk_mul, nI_add, nI_add, nI_add, rk_in (by omega) (by decide), rk_in (by omega) (by decide), nI_clamp (by omega), nI_clamp (by omega), ob_some]
    refine ⟨sD C1 8 (p * 5 + i) v, sD C1' 122 (20 + 5 * p + i) v, rfl, rfl, LN_w (LN_k lc) (fun c hc => sD_nr _ _ _ (by omega)) (fun c hc => sD_nr _ _ _ hc), fun _ => ?_⟩
    rw [sD_row, show 20 + 5 * p + i = 20 + (p * 5 + i) by omega]
    refine ⟨DT_tren hDC (by omega) ⟨by omega, by omega⟩, ?_, ?_⟩
    · rw [upd_ne _ _ (by omega), eC]
    · unfold nP
      rw [upd_ne _ _ (by omega), eC]
      exact Nat.lt_of_le_of_lt (Nat.zero_le p) hp
  · rw [good_0 g, if_pos z0, if_neg (fun e => g (lc.1.1.1.symm.trans e))]
    exact ⟨C1, C1', rfl, rfl, LN_k lc, fun e => absurd e g⟩
end LI
