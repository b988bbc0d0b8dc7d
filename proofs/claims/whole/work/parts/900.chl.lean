/-! ===== both readers in step: a whole line ===== -/
section CL
variable {D D' D0 : mx_D} {w w' : W_} {F : Nat}
theorem if0 {α : Type} (A B : α) : (if b01 false = 0 then A else B) = A := if_pos zb0
theorem if1 {α : Type} (A B : α) : (if b01 true = 0 then A else B) = B := if_neg zb1
/-- a word that stands: its length, its first letter -/
theorem is_sig {w L : Nat} {c : Nat → Int32} (hw : WD w L c) (hL : 0 < L) (hF : 100 ≤ F) {t : Nat} (h : RTK D D' t) (g : D' 116 12 = 0) (e : g_M_is F D' w = some (b01 true)) : D' 116 8 - D' 116 9 = nI L ∧ D' 120 (D' 116 9).toNatClampNeg = c 0 := by
  obtain ⟨h1, h2, h3, h4, h5, p, q, k, a1, a2, a3, a4, a5, a6, a7⟩ := h
  have hw' := hw
  obtain ⟨w1, w2, w3⟩ := hw
  have no : ∀ {P : Prop}, some (b01 false) = some (b01 true) → P := fun z => absurd (Option.some.inj z) (by decide)
  unfold g_M_is at e
  rw [good_1 g, if_neg z1] at e
  by_cases c1 : D' 116 10 = nI 1
  · rw [if_pos c1, w2, ob_some] at e
    by_cases c2 : D' 116 8 - D' 116 9 = nI L
    · refine ⟨c2, ?_⟩
      rw [if_pos c2] at e
      rw [a4.2, a5.2, nI_subN a1] at c2
      have c3 : p - q = L := (nI_eq (by omega) (by omega)).mp c2
      rw [m_ws hw' (by omega) a5.2 L F 0 (by omega) (by omega)] at e
      obtain ⟨k, rfl⟩ : ∃ k, L = k + 1 := ⟨L - 1, by omega⟩
      have e2 : ws (D' 120) c q (k + 1) 0 = if D' 120 (q + 0) = c 0 then ws (D' 120) c q k (0 + 1) else false := rfl
      rw [e2] at e
      rw [a5.2, nI_clamp (by omega)]
      by_cases z : D' 120 (q + 0) = c 0
      · exact z
      · rw [if_neg z] at e
        exact no e
    · rw [if_neg c2, m_no hw' hF] at e
      exact no e
  · rw [if_neg c1, m_no hw' hF] at e
    exact no e
def df (a b : Nat) : Bool := decide (0 < wl a) && (decide (0 < wl b) && (!decide (nI (wl a) = nI (wl b)) || !decide (wc a 0 = wc b 0)))
theorem excl (hF : 2000 ≤ F) {t : Nat} (h : S2 D D' t) (g : D' 116 12 = 0) {a b : Nat} (a1 : 1000 ≤ a ∧ a ≤ 1020) (b1 : 1000 ≤ b ∧ b ≤ 1020) (hd : df a b = true) (e : g_M_is F D' a = some (b01 true)) {x : Bool} (e2 : g_M_is F D' b = some (b01 x)) : x = false := by
  cases x
  · rfl
  · unfold df at hd
    simp only [Bool.and_eq_true, Bool.or_eq_true, Bool.not_eq_true', decide_eq_true_eq, decide_eq_false_iff_not] at hd
    obtain ⟨p1, p2⟩ := is_sig (wd a1.1 a1.2) hd.1 (by omega) (h.1.2.2.2 g) g e
    obtain ⟨q1, q2⟩ := is_sig (wd b1.1 b1.2) hd.2.1 (by omega) (h.1.2.2.2 g) g e2
    rcases hd.2.2 with z | z
    · exact absurd (p1.symm.trans q1) z
    · exact absurd (p2.symm.trans q2) z
/-- ready for one more line to be counted -/
def RD (D : mx_D) (w : W_) (n : Nat) : Prop := DT (sD D 4 4 (D 4 4 + nI 1)) (upd w 7 (w 7 + nI 1)) ∧ 0 < nP w ∧ w 7 = nI n
theorem RD_of (hD : DT D w) (hP : 0 < nP w) (hn : nN w + 1 ≤ 1400) : RD D w (nN w) := ⟨DT_n7 hD hP hn, hP, wf_N hD.2.1⟩
/-- the line's sign, and the line is counted -/
theorem fin_LN (hF : 2000 ≤ F) {t n : Nat} {K K' : mx_D} (h : LN D D' K K' t) (hn : n + 1 ≤ 1400) (hr : K' 116 12 = 0 → RD K (K' 122) n) : ∃ D1 D1', g_Reader_takeSign F K = some D1 ∧ b_M_readLine_21 F K' = some D1' ∧ LN D D' (sD D1 4 4 (D1 4 4 + nI 1)) D1' t ∧ (D1' 116 12 = 0 → DT (sD D1 4 4 (D1 4 4 + nI 1)) (D1' 122) ∧ 0 < nP (D1' 122) ∧ D1' 122 7 = nI (n + 1) ∧ (D 3 6).toInt + 1 ≤ (sD D1 4 4 (D1 4 4 + nI 1) 3 6).toInt) := by
  obtain ⟨D1, D1', a1, a2, a3, a4⟩ := sign_LK hF h.1
  have l := LN_w (LN_t h (LN_k a3)) (D2 := sD D1 4 4 (D1 4 4 + nI 1)) (D2' := sD D1' 122 7 (D1' 122 7 + nI 1)) (fun c hc => sD_nr _ _ _ (by omega)) (fun c hc => sD_nr _ _ _ hc)
  refine ⟨D1, _, a1, a2, l, fun g => ?_⟩
  rw [sD_ne _ _ _ _ (by decide)] at g
  obtain ⟨r1, r2, r3⟩ := hr (MF_g a3.2.2.1 g)
  have e122 := MF_122 a3.2.2.1
  have hx := a3.2.1
  have m := h.2.1.2
  have m2 := a4 g
  unfold MO at m
  rw [sD_row, e122]
  refine ⟨?_, ?_, ?_, ?_⟩
  · refine DT_x r1 (fun c q1 q2 => ?_)
    by_cases z : c = 4
    · subst z
      rw [sD_row, sD_row, hx 4 (by decide)]
    · rw [sD_nr _ _ _ z, sD_nr _ _ _ z, hx c (by omega)]
  · unfold nP
    rw [upd_ne _ _ (by omega)]
    exact r2
  · rw [upd_eq, r3, nI_add]
  · rw [sD_ne _ _ _ _ (by decide)]
    omega
theorem RD_PO {t : Nat} {G' K K' : mx_D} (e : G' 122 = D' 122) (hD : WF (D' 122)) (hn : nN (D' 122) + 1 ≤ 1400) (hp : PO G' K K') : K' 116 12 = 0 → RD K (K' 122) (nN (D' 122)) := fun g => by
  obtain ⟨p1, p2, p3⟩ := hp g
  rw [e] at p2
  have en : nN (K' 122) = nN (D' 122) := by unfold nN; rw [p2]
  have := RD_of p1 p3 (by omega)
  rw [en] at this
  exact this
/-- a line that begins with a word that can't stand there -/
theorem bad_LN (hF : 2000 ≤ F) {t : Nat} (h : S2 D D' t) {n : Int32} (hn : ¬ n = 0) {K' : mx_D} (e1 : ∀ c, c ≠ 122 → K' c = g_M_errs n D' c) : ∃ D1 D1', g_Reader_takeSign F (g_Reader_refuse n (D 3 6) D) = some D1 ∧ b_M_readLine_21 F K' = some D1' ∧ LN D D' (sD D1 4 4 (D1 4 4 + nI 1)) D1' t ∧ ¬ D1' 116 12 = 0 := by
  obtain ⟨l1, l2⟩ := refuse_LK h hn
  have l3 := LN_w (LN_k l1) (D2 := g_Reader_refuse n (D 3 6) D) (D2' := K') (fun c hc => rfl) e1
  have l4 : ¬ K' 116 12 = 0 := by rw [e1 116 (by decide)]; exact l2
  obtain ⟨D1, D1', a1, a2, a3, a4⟩ := fin_LN hF (n := 0) l3 (by decide) (fun e => absurd e l4)
  refine ⟨D1, D1', a1, a2, a3, fun e => ?_⟩
  obtain ⟨S, S', b1, b2, b3, b4⟩ := sign_LK hF l3.1
  rw [b2] at a2
  have := Option.some.inj a2
  rw [← this, sD_ne _ _ _ _ (by decide)] at e
  exact absurd (MF_g b3.2.2.1 e) l4
/-- the head, read: the church begins -/
theorem RD_head {K K' : mx_D} (hz : (∀ j, 3 < j → K 4 j = D 4 j) ∧ (∀ k, 4 < k → k ≤ 18 → K k = D k)) (hD : DT D w) (hw0 : ∀ i, i < 106 → w i = nI 0) {a b c v : Int32} (ha : nI 1 ≤ a ∧ a ≤ nI 4) (hb : nI 1 ≤ b ∧ b ≤ nI 5) (hc : nI 0 ≤ c ∧ c ≤ nI 30) (hv : v = nI 0 ∨ v = nI 1) (hk : K 4 0 = a ∧ K 4 1 = b ∧ K 4 2 = c ∧ K 4 3 = v) (hk' : K' 122 0 = a ∧ K' 122 1 = b ∧ K' 122 2 = c ∧ K' 122 3 = v) (ho : ∀ j, 3 < j → K' 122 j = w j) : RD K (K' 122) 0 := by
  obtain ⟨z1, z2⟩ := hz
  obtain ⟨h1, h2, h3, h4, h5⟩ := hD
  have la := le_t (by decide) (by decide) ha.1 ha.2
  have lb := le_t (by decide) (by decide) hb.1 hb.2
  have lc := le_t (by decide) (by decide) hc.1 hc.2
  have num : ∀ x : Int32, 0 ≤ x.toInt → x = nI x.toInt.toNat := fun x hx => by
    rw [iI_nI, show ((x.toInt.toNat : Nat) : Int) = x.toInt by omega]
    exact (iI_at x).symm
  have ea := num a (by omega)
  have eb := num b (by omega)
  have ec := num c (by omega)
  have o7 : K' 122 7 = nI 0 := by rw [ho 7 (by decide), hw0 7 (by decide)]
  have e1 : K' 122 7 + nI 1 = nI 1 := by rw [o7]; rfl
  have d44 : D 4 4 = w 7 := h1.1.2.2.2.2.1
  have k44 : K 4 4 + nI 1 = nI 1 := by rw [z1 4 (by decide), d44, hw0 7 (by decide)]; rfl
  have o : ∀ i, 3 < i → i ≠ 7 → i < 106 → upd (K' 122) 7 (nI 1) i = nI 0 := fun i q1 q2 q3 => by rw [upd_ne _ _ q2, ho i q1, hw0 i q3]
  have u0 : upd (K' 122) 7 (nI 1) 0 = a := by rw [upd_ne _ _ (by decide)]; exact hk'.1
  have u1 : upd (K' 122) 7 (nI 1) 1 = b := by rw [upd_ne _ _ (by decide)]; exact hk'.2.1
  have u2 : upd (K' 122) 7 (nI 1) 2 = c := by rw [upd_ne _ _ (by decide)]; exact hk'.2.2.1
  have u3 : upd (K' 122) 7 (nI 1) 3 = v := by rw [upd_ne _ _ (by decide)]; exact hk'.2.2.2
  have u7 : upd (K' 122) 7 (nI 1) 7 = nI 1 := upd_eq _ _ _
  refine ⟨?_, ?_, o7⟩
  · rw [e1, k44]
    generalize upd (K' 122) 7 (nI 1) = x at o u0 u1 u2 u3 u7 ⊢
    have nA0 : nA x = 0 := by unfold nA; rw [o 4 (by decide) (by decide) (by decide)]; rfl
    have nH0 : nH x = 0 := by unfold nH; rw [o 5 (by decide) (by decide) (by decide)]; rfl
    have nB0 : nB x = 0 := by unfold nB; rw [o 6 (by decide) (by decide) (by decide)]; rfl
    have nP0 : nP x = a.toInt.toNat := by unfold nP; rw [u0, ea, nI_clamp (by omega), ← ea]
    have nL0 : nL x = b.toInt.toNat := by unfold nL; rw [u1, eb, nI_clamp (by omega), ← eb]
    have nV0 : nV x = c.toInt.toNat := by unfold nV; rw [u2, ec, nI_clamp (by omega), ← ec]
    have nN0 : nN x = 1 := by unfold nN; rw [u7]; rfl
    have t0 : ∀ i, 3 < i → i ≠ 7 → i < 106 → ti x i = 0 := fun i q1 q2 q3 => by unfold ti; rw [o i q1 q2 q3]; rfl
    obtain ⟨⟨c0, c1, c2, c3, c4, c10, c12, c9⟩, d2, d3, d4, d5, d6⟩ := h1
    refine ⟨⟨⟨?_, ?_, ?_, ?_, ?_, ?_, ?_, ?_⟩, fun j hj => ?_, fun j hj => ?_, fun y hy => ?_, fun y hy => ?_, fun y hy => ?_⟩, ⟨?_, ?_, ?_, ?_, ?_, ?_, ?_, ?_, ?_, ?_, ?_, ?_, ?_, ?_, ?_, ?_, ?_⟩, ⟨fun y z hy => ?_, fun y z hy => ?_⟩, fun y q1 q2 => ?_, fun j hj => ?_⟩
    · rw [sD_nj _ _ _ (by decide), u0]; exact hk.1
    · rw [sD_nj _ _ _ (by decide), u1]; exact hk.2.1
    · rw [sD_nj _ _ _ (by decide), u2]; exact hk.2.2.1
    · rw [sD_nj _ _ _ (by decide), u3]; exact hk.2.2.2
    · rw [sD_eq, u7]
    · rw [sD_nj _ _ _ (by decide), z1 10 (by decide), c10, o 5 (by decide) (by decide) (by decide), hw0 5 (by decide)]
    · rw [sD_nj _ _ _ (by decide), z1 12 (by decide), c12, o 6 (by decide) (by decide) (by decide), hw0 6 (by decide)]
    · rw [sD_ne _ _ _ _ (by decide), z2 (4 + 5) (by decide) (by decide), c9, o 4 (by decide) (by decide) (by decide), hw0 4 (by decide)]
    · rw [sD_ne _ _ _ _ (show 4 + 1 ≠ 4 by decide), sD_ne _ _ _ _ (show 4 + 2 ≠ 4 by decide), sD_ne _ _ _ _ (show 4 + 3 ≠ 4 by decide), z2 (4 + 1) (by decide) (by decide), z2 (4 + 2) (by decide) (by decide), z2 (4 + 3) (by decide) (by decide), o _ (by omega) (by omega) (by omega), o _ (by omega) (by omega) (by omega), o _ (by omega) (by omega) (by omega)]
      have := d2 j hj
      rw [hw0 _ (by omega), hw0 _ (by omega), hw0 _ (by omega)] at this
      exact this
    · rw [sD_ne _ _ _ _ (show 4 + 4 ≠ 4 by decide), z2 (4 + 4) (by decide) (by decide), o _ (by omega) (by omega) (by omega), d3 j hj, hw0 _ (by omega)]
    · rw [nA0] at hy
      exact absurd hy (Nat.not_lt_zero _)
    · rw [nH0] at hy
      exact absurd hy (Nat.not_lt_zero _)
    · rw [nB0] at hy
      exact absurd hy (Nat.not_lt_zero _)
    · rw [u0, nP0]; exact ⟨ea, by omega⟩
    · rw [u1, nL0]; exact ⟨eb, by omega⟩
    · rw [u2, nV0]; exact ⟨ec, by omega⟩
    · rw [u3]; exact hv
    · rw [nA0]; exact ⟨o 4 (by decide) (by decide) (by decide), by decide⟩
    · rw [nH0]; exact ⟨o 5 (by decide) (by decide) (by decide), by decide⟩
    · rw [nB0]; exact ⟨o 6 (by decide) (by decide) (by decide), by decide⟩
    · rw [nN0]; exact ⟨u7, by decide⟩
    · rw [nP0, nN0, nL0, nA0, nH0, nB0]
      refine ⟨⟨fun _ => by decide, fun _ => by omega⟩, ⟨fun _ => by omega, fun _ => by omega⟩, fun q => absurd q (Nat.not_lt_zero _), fun q => absurd q (Nat.not_lt_zero _), fun q => absurd q (Nat.not_lt_zero _)⟩
    · intro j hj
      rw [t0 _ (by omega) (by omega) (by omega), t0 _ (by omega) (by omega) (by omega), t0 _ (by omega) (by omega) (by omega)]
      decide
    · intro j hj
      rw [t0 _ (by omega) (by omega) (by omega)]
      decide
    · intro y hy
      rw [nA0] at hy
      exact absurd hy (Nat.not_lt_zero _)
    · intro y hy
      rw [nA0] at hy
      exact absurd hy (Nat.not_lt_zero _)
    · intro y hy
      rw [nA0] at hy
      exact absurd hy (Nat.not_lt_zero _)
    · intro y hy
      rw [nH0] at hy
      exact absurd hy (Nat.not_lt_zero _)
    · intro y hy
      rw [nB0] at hy
      exact absurd hy (Nat.not_lt_zero _)
    · intro y hy
      rw [nB0] at hy
      exact absurd hy (Nat.not_lt_zero _)
    · rw [nA0] at hy
      exact absurd hy (Nat.not_lt_zero _)
    · rw [nA0] at hy
      exact absurd hy (Nat.not_lt_zero _)
    · rw [sD_ne _ _ _ _ (by decide), z2 18 (by decide) (by decide)]
      refine h4 y ?_ q2
      have : nB w = 0 := by unfold nB; rw [hw0 6 (by decide)]; rfl
      omega
    · exact o _ (by omega) (by omega) (by omega)
  · unfold nP
    rw [hk'.1, ea, nI_clamp (by omega)]
    omega
end CL
