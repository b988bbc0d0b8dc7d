/-! ===== both readers in step: they go on, place by place ===== -/
section R2
variable {D D' : mx_D} {F : Nat}
/-- where the class's reader stands: a token's place, its end -/
def PG (D : mx_D) (t : Nat) : Prop := ∃ p q k, q ≤ p ∧ p ≤ t ∧ t ≤ 1400 ∧ (k = 0 ∨ q < p) ∧ (t ≤ q → k = 0) ∧ k ≤ 4 ∧ D 3 4 = nI p ∧ D 3 6 = nI q ∧ D 3 5 = nI k
def MO (D D1 : mx_D) : Prop := (D 3 6).toInt ≤ (D1 3 6).toInt
theorem MO_t {D1 D2 : mx_D} (h : MO D D1) (h2 : MO D1 D2) : MO D D2 := Int.le_trans h h2
theorem kd_t0 {T : Nat → Int32} {t p : Nat} (h : t ≤ p) : kd T t p = 0 := by
  unfold kd
  rw [if_pos h]
theorem nx_gt (T : Nat → Int32) {t p : Nat} (hp : p < t) : p < nx T t p := by
  unfold nx
  rw [if_neg (show ¬ t ≤ p by omega)]
  obtain ⟨k, hk⟩ : ∃ k, t - p = k + 1 := ⟨t - p - 1, by omega⟩
  rw [hk]
  by_cases c1 : g_Reader_isLetter (T p) = 0
  · rw [if_pos c1]
    by_cases c2 : g_Reader_isDigit (T p) = 0
    · rw [if_pos c2]
      omega
    · have e : td T (k + 1) p = if g_Reader_isDigit (T p) = 0 then p else td T k (p + 1) := rfl
      have := td_b T k (p + 1)
      rw [if_neg c2, e, if_neg c2]
      omega
  · have e : tl T (k + 1) p = if g_Reader_isLetter (T p) = 0 then p else tl T k (p + 1) := rfl
    have := tl_b T k (p + 1)
    rw [if_neg c1, e, if_neg c1]
    omega
theorem pg_adv (hF : 2000 ≤ F) {t : Nat} (h : XP D t) {D1 : mx_D} (e : g_Reader_advance F D = some D1) : PG D1 t ∧ (D 3 4).toInt ≤ (D1 3 6).toInt ∧ MO D D1 := by
  obtain ⟨h1, h2, h3, p, q, k, a1, a2, a3, a4, a5, a6, a7⟩ := h
  obtain ⟨D2, b1, b2, b3, b4, b5, b6, b7⟩ := x_adv hF h1 h2 a4 a2
  rw [b1] at e
  obtain rfl := Option.some.inj e
  have w1 := tw_b (D 2) (t - p) p
  have w2 := nx_b (D 2) (show tw (D 2) (t - p) p ≤ t by omega)
  refine ⟨⟨_, _, _, w2.1, w2.2, h1, ?_, fun c => kd_t0 c, kd_4 _ _ _, b4, b6, b5⟩, ?_, ?_⟩
  · by_cases c : tw (D 2) (t - p) p < t
    · exact Or.inr (nx_gt _ c)
    · exact Or.inl (kd_t0 (by omega))
  · rw [a4, b6, nI_toInt (by omega), nI_toInt (by omega)]
    omega
  · unfold MO
    rw [a5, b6, nI_toInt (by omega), nI_toInt (by omega)]
    omega
theorem refuse_XP {t : Nat} (h : XP D t) (a b : Int32) : XP (g_Reader_refuse a b D) t := by
  obtain ⟨r1, r2, r3, r4⟩ := refuse_X D a b
  exact XP_of h r1 (fun j h1 h2 => r2 j (by omega) (by omega))
theorem MO_e {D1 D2 : mx_D} (e : D1 3 6 = D 3 6) (h : MO D1 D2) : MO D D2 := by
  unfold MO at h ⊢
  rw [← e]
  exact h
theorem pg_word (hF : 2000 ≤ F) {w t : Nat} (w1 : 1000 ≤ w) (w2 : w ≤ 1020) (h : XP D t) {D1 : mx_D} (e : g_Reader_takeWord F w D = some D1) : PG D1 t ∧ MO D D1 := by
  obtain ⟨b, e1⟩ := is_X (F := F) (wd w1 w2) (by omega) h
  unfold g_Reader_takeWord at e
  rw [e1, ob_some] at e
  cases b
  · have hX := refuse_XP h (nI 1) (D 3 6)
    obtain ⟨D2, a1, a2, a3, a4⟩ := adv_X (F := F) hF hX
    rw [if_pos (show b01 false = 0 from rfl), a1, ob_some] at e
    obtain rfl := Option.some.inj e
    obtain ⟨q1, q2, q3⟩ := pg_adv hF hX a1
    exact ⟨q1, MO_e ((refuse_X D _ _).2.1 6 (by decide) (by decide)) q3⟩
  · obtain ⟨D2, a1, a2, a3, a4⟩ := adv_X (F := F) hF h
    rw [if_neg (show ¬ b01 true = 0 by decide), a1, ob_some] at e
    obtain rfl := Option.some.inj e
    obtain ⟨q1, q2, q3⟩ := pg_adv hF h a1
    exact ⟨q1, q3⟩
theorem pg_num (hF : 2000 ≤ F) {t : Nat} (h : XP D t) {a b r : Int32} {D1 : mx_D} (e : g_Reader_takeNumber F a b D = some (r, D1)) : PG D1 t ∧ MO D D1 := by
  have fin : ∀ G : mx_D, XP G t → G 3 6 = D 3 6 → b_Reader_takeNumber_45 F G = some (r, D1) → PG D1 t ∧ MO D D1 := fun G hG g6 e => by
    have hG2 : XP (sD G 3 8 (G 3 6)) t := XP_of hG (fun c hc => by rw [sD_nr _ _ _ hc]) (fun j h1 h2 => by rw [sD_nj _ _ _ (by omega)])
    obtain ⟨D2, a1, a2, a3, a4⟩ := adv_X (F := F) hF hG2
    obtain ⟨q1, q2, q3⟩ := pg_adv hF hG2 a1
    have e6 : sD G 3 8 (G 3 6) 3 6 = D 3 6 := by rw [sD_nj _ _ _ (by decide), g6]
    unfold b_Reader_takeNumber_45 at e
    rw [a1, ob_some, ob_some] at e
    have e2 : D2 = D1 := by
      split at e
      · exact (Prod.mk.inj (Option.some.inj e)).2
      · exact (Prod.mk.inj (Option.some.inj e)).2
    subst e2
    exact ⟨q1, MO_e e6 q3⟩
  have ref : ∀ x : Int32, b_Reader_takeNumber_45 F (g_Reader_refuse x (D 3 6) D) = some (r, D1) → PG D1 t ∧ MO D D1 := fun x => fin _ (refuse_XP h _ _) ((refuse_X D _ _).2.1 6 (by decide) (by decide))
  unfold g_Reader_takeNumber b_Reader_takeNumber_36 at e
  split at e
  · split at e
    · exact ref _ e
    · split at e
      · exact fin D h rfl e
      · exact ref _ e
  · exact ref _ e
/-- all that ties both readers -/
def S2 (D D' : mx_D) (t : Nat) : Prop := ST D D' t ∧ PG D t
/-- both readers have moved on, and nothing else -/
def LK (D D' D1 D1' : mx_D) (t : Nat) : Prop := S2 D1 D1' t ∧ XF D D1 ∧ MF D' D1' ∧ MO D D1
theorem LK_t {D1 D1' D2 D2' : mx_D} {t : Nat} (h : LK D D' D1 D1' t) (h2 : LK D1 D1' D2 D2' t) : LK D D' D2 D2' t :=
  ⟨h2.1, XF_t h.2.1 h2.2.1, MF_t h.2.2.1 h2.2.2.1, MO_t h.2.2.2 h2.2.2.2⟩
theorem MF_g {D1 : mx_D} (h : MF D D1) (g : D1 116 12 = 0) : D 116 12 = 0 := by
  by_cases c : D 116 12 = 0
  · exact c
  · rw [h.2.2 c] at g
    exact g
theorem MF_122 {D1 : mx_D} (h : MF D D1) : D1 122 = D 122 := h.1 122 (by decide)
/-- other cells are written -/
theorem S2_w {t : Nat} {D1 D1' : mx_D} (h : S2 D D' t) (e1 : D1 1 = D 1) (e2 : D1 2 = D 2) (e3 : D1 3 = D 3) (e4 : D1' 116 = D' 116) (e5 : D1' 120 = D' 120) : S2 D1 D1' t := by
  unfold S2 ST RTK XP PG at h ⊢
  rw [e1, e2, e3, e4, e5]
  exact h
theorem word_LK (hF : 2000 ≤ F) {w t : Nat} (w1 : 1000 ≤ w) (w2 : w ≤ 1020) (h : S2 D D' t) : ∃ D1 D1', g_Reader_takeWord F w D = some D1 ∧ g_M_needs F w D' = some D1' ∧ LK D D' D1 D1' t := by
  obtain ⟨D1, D1', a1, a2, a3, a4, a5⟩ := word_ST hF h.1 w1 w2
  obtain ⟨b1, b2⟩ := pg_word hF w1 w2 h.1.2.2.1 a1
  exact ⟨D1, D1', a1, a2, ⟨a3, b1⟩, a4, a5, b2⟩
theorem word_B (hF : 2000 ≤ F) {w t : Nat} (w1 : 1000 ≤ w) (w2 : w ≤ 1020) (h : S2 D D' t) (g : ¬ D' 116 12 = 0) : ∃ D1, g_Reader_takeWord F w D = some D1 ∧ LK D D' D1 D' t := by
  obtain ⟨D1, D1', a1, a2, a3⟩ := word_LK hF w1 w2 h
  have e := a3.2.2.1.2.2 g
  subst e
  exact ⟨D1, a1, a3⟩
theorem num_LK (hF : 2000 ≤ F) {t : Nat} (h : S2 D D' t) {a b a' b' : Int32} (hab : D' 116 12 = 0 → a = a' ∧ b = b' ∧ b.toInt ≤ 1000) : ∃ r r' D1 D1', g_Reader_takeNumber F a b D = some (r, D1) ∧ g_M_number F a' b' D' = some (r', D1') ∧ LK D D' D1 D1' t ∧ D1 3 8 = D 3 6 ∧ (D1' 116 12 = 0 → r = r' ∧ a ≤ r ∧ r ≤ b ∧ D' 116 10 = nI 2 ∧ D' 116 11 = r) ∧ (¬ D1' 116 12 = 0 → r = -1) := by
  by_cases g : D' 116 12 = 0
  · obtain ⟨rfl, rfl, hb⟩ := hab g
    obtain ⟨r, r', D1, D1', a1, a2, a3, a4, a5, a6, a7, a8⟩ := takeNumber_ST hF h.1 a b hb
    obtain ⟨b1, b2⟩ := pg_num hF h.1.2.2.1 a1
    exact ⟨r, r', D1, D1', a1, a2, ⟨⟨a3, b1⟩, a4, a5, b2⟩, a6, fun e => by
      obtain ⟨q1, q2, q3, q4, q5, q6⟩ := a7 e
      exact ⟨q1, q2, q3, q5, q6⟩, a8⟩
  · have gx : ¬ D 3 1 = 0 := by rw [h.1.1]; exact g
    obtain ⟨D1, a1, a2, a3, a4, a5, a6⟩ := num_bad hF h.1.2.2.1 a b gx
    obtain ⟨b1, b2⟩ := pg_num hF h.1.2.2.1 a1
    have gb : g_M_good D' = nI 0 := by unfold g_M_good; rw [if_neg g]
    refine ⟨-1, nI 0, D1, D', a1, ?_, ⟨⟨⟨a4.trans h.1.1, a5.trans h.1.2.1, a2, fun e => absurd e g⟩, b1⟩, a3, MF_r D', b2⟩, a6, fun e => absurd e g, fun _ => rfl⟩
    unfold g_M_number b_M_number_20 b_M_number_47
    rw [gb, if_pos (show nI 0 = 0 from rfl), if_pos (show nI 0 = 0 from rfl), if_pos (show nI 0 = 0 from rfl)]
theorem num_B (hF : 2000 ≤ F) {t : Nat} (h : S2 D D' t) (g : ¬ D' 116 12 = 0) (a b : Int32) : ∃ D1, g_Reader_takeNumber F a b D = some (-1, D1) ∧ LK D D' D1 D' t := by
  obtain ⟨r, r', D1, D1', a1, a2, a3, a4, a5, a6⟩ := num_LK hF h (a := a) (b := b) (a' := a) (b' := b) (fun e => absurd e g)
  have e := a3.2.2.1.2.2 g
  subst e
  have := a6 g
  subst this
  exact ⟨D1, a1, a3⟩
theorem told_LK (hF : 2000 ≤ F) {w t : Nat} (w1 : 1000 ≤ w) (w2 : w ≤ 1020) (h : S2 D D' t) {a b : Int32} (hb : b.toInt ≤ 1000) : ∃ G r r' D1 D1', g_Reader_takeWord F w D = some G ∧ g_Reader_takeNumber F a b G = some (r, D1) ∧ g_M_told F w a b D' = some (r', D1') ∧ LK D D' D1 D1' t ∧ (D1' 116 12 = 0 → r = r' ∧ a ≤ r ∧ r ≤ b) := by
  obtain ⟨G, G', a1, a2, a3⟩ := word_LK hF w1 w2 h
  obtain ⟨r, r', D1, D1', b1, b2, b3, b4, b5, b6⟩ := num_LK hF a3.1 (a := a) (b := b) (a' := a) (b' := b) (fun _ => ⟨rfl, rfl, hb⟩)
  refine ⟨G, r, r', D1, D1', a1, b1, ?_, LK_t a3 b3, fun e => ⟨(b5 e).1, (b5 e).2.1, (b5 e).2.2.1⟩⟩
  unfold g_M_told
  rw [a2, ob_some, b2, ob_some]
/-- a fault found by both, at the token where they stand -/
theorem refuse_LK {t : Nat} (h : S2 D D' t) {n : Int32} (hn : ¬ n = 0) : LK D D' (g_Reader_refuse n (D 3 6) D) (g_M_errs n D') t ∧ ¬ g_M_errs n D' 116 12 = 0 := by
  obtain ⟨⟨s1, s2, s3, s4⟩, s5⟩ := h
  obtain ⟨r1, r2, r3, r4⟩ := refuse_X D n (D 3 6)
  obtain ⟨m1, m2, m3, m4, m5⟩ := errs_M D' n
  have hbad : ¬ g_M_errs n D' 116 12 = 0 := by
    rw [m3]
    split
    · exact hn
    · assumption
  refine ⟨⟨⟨⟨?_, ?_, refuse_XP s3 _ _, fun e => absurd e hbad⟩, ?_⟩, r1, ⟨m1, fun j hj => m2 j (by omega) (by omega), m5⟩, ?_⟩, hbad⟩
  · rw [r3, m3, s1]
  · rw [r4, m4, s1, s2]
    by_cases g : D' 116 12 = 0
    · rw [if_pos g, if_pos g]
      obtain ⟨h1, h2, h3, h4, h5, p, q, k, q1, q2, q3, q4, q5, q6, q7⟩ := s4 g
      rw [q5.1, q5.2]
    · rw [if_neg g, if_neg g]
  · unfold PG at s5 ⊢
    rw [r2 4 (by decide) (by decide), r2 5 (by decide) (by decide), r2 6 (by decide) (by decide)]
    exact s5
  · unfold MO
    rw [r2 6 (by decide) (by decide)]
    exact Int.le_refl _
/-- a line's sign -/
theorem sign_LK (hF : 2000 ≤ F) {t : Nat} (h : S2 D D' t) : ∃ D1 D1', g_Reader_takeSign F D = some D1 ∧ b_M_readLine_21 F D' = some (sD D1' 122 7 (D1' 122 7 + nI 1)) ∧ LK D D' D1 D1' t ∧ (D1' 116 12 = 0 → (D 3 6).toInt + 1 ≤ (D1 3 6).toInt) := by
  have hX := h.1.2.2.1
  have bad : ∀ (G G' : mx_D), LK D D' G G' t → ¬ G' 116 12 = 0 → ∃ D1, g_Reader_advance F G = some D1 ∧ LK D D' D1 G' t := fun G G' hL g => by
    obtain ⟨D1, a1, a2, a3, a4⟩ := adv_X (F := F) hF hL.1.1.2.2.1
    obtain ⟨q1, q2, q3⟩ := pg_adv hF hL.1.1.2.2.1 a1
    refine ⟨D1, a1, LK_t hL ⟨⟨⟨?_, ?_, a2, fun e => absurd e g⟩, q1⟩, a3, MF_r _, q3⟩⟩
    · rw [a4 1 (by decide) (by decide) (by decide) (by decide), hL.1.1.1]
    · rw [a4 2 (by decide) (by decide) (by decide) (by decide), hL.1.1.2.1]
  have m41 : ∀ G : mx_D, ¬ G 116 12 = 0 → b_M_readLine_41 F G = some (sD G 122 7 (G 122 7 + nI 1)) := fun G hG => by
    unfold b_M_readLine_41 g_M_good
    rw [if_neg hG, if_pos (show nI 0 = 0 from rfl)]
  unfold g_Reader_takeSign b_M_readLine_21
  by_cases g : D' 116 12 = 0
  · have gg : g_M_good D' = nI 1 := by unfold g_M_good; rw [if_pos g]
    have hR := h.1.2.2.2 g
    have hR' := hR
    obtain ⟨h1, h2, h3, h4, h5, p, q, k, q1, q2, q3, q4, q5, q6, q7⟩ := hR
    rw [gg, if_neg (show ¬ nI 1 = 0 by decide), q6.1, q6.2]
    by_cases c : nI k = nI 3
    · obtain ⟨D1, D2, a1, a2, a3, ⟨a4, a5⟩, a6, a7⟩ := adv_RT hF hR'
      obtain ⟨p1, p2, p3⟩ := pg_adv hF hX a1
      rw [if_pos c, if_pos c, a1, ob_some]
      unfold b_M_readLine_41
      rw [gg, if_neg (show ¬ nI 1 = 0 by decide), a2, ob_some]
      refine ⟨D1, D2, rfl, rfl, ⟨⟨⟨?_, ?_, RTK_X a3, fun _ => a3⟩, p1⟩, a4, ⟨a6, fun j hj => a7 j (by omega) (by omega) (by omega) (by omega), fun e => absurd g e⟩, p3⟩, fun _ => ?_⟩
      · rw [a5 1 (by decide) (by decide) (by decide) (by decide), a7 12 (by decide) (by decide) (by decide) (by decide), h.1.1]
      · rw [a5 2 (by decide) (by decide) (by decide) (by decide), a7 13 (by decide) (by decide) (by decide) (by decide), h.1.2.1]
      · obtain ⟨p', q', k', z1, z2, z3, z4, z5, z6, z7, z8, z9⟩ := h.2
        have k3 : k' = 3 := by
          rw [q6.1] at z9
          rw [c] at z9
          exact ((nI_eq (by omega) (by omega)).mp z9).symm
        rw [z7, nI_toInt (by omega)] at p2
        rw [z8, nI_toInt (by omega)]
        omega
    · obtain ⟨l1, l2⟩ := refuse_LK h (n := nI 1) (by decide)
      obtain ⟨D1, a1, a2⟩ := bad _ _ l1 l2
      rw [if_neg c, if_neg c, a1, ob_some, m41 _ l2]
      exact ⟨D1, _, rfl, rfl, a2, fun e => absurd e l2⟩
  · have gg : g_M_good D' = nI 0 := by unfold g_M_good; rw [if_neg g]
    rw [gg, if_pos (show nI 0 = 0 from rfl), m41 _ g]
    have l0 : LK D D' D D' t := ⟨h, fun _ _ => rfl, MF_r D', Int.le_refl _⟩
    obtain ⟨l1, l2⟩ := refuse_LK h (n := nI 1) (by decide)
    have e : g_M_errs (nI 1) D' = D' := (errs_M D' (nI 1)).2.2.2.2 g
    rw [e] at l1
    obtain ⟨D1, a1, a2⟩ := bad _ _ l0 g
    obtain ⟨D2, b1, b2⟩ := bad _ _ l1 g
    split
    · rw [a1, ob_some]
      exact ⟨D1, D', rfl, rfl, a2, fun e => absurd e g⟩
    · rw [b1, ob_some]
      exact ⟨D2, D', rfl, rfl, b2, fun e => absurd e g⟩
/-- the word stands: the class takes it, the reference has taken it -/
theorem start_LK (hF : 2000 ≤ F) {w t : Nat} (w1 : 1000 ≤ w) (w2 : w ≤ 1020) (h : S2 D D' t) (g : D' 116 12 = 0) (e : g_M_is F D' w = some (b01 true)) : ∃ D1 D1', g_Reader_takeWord F w D = some D1 ∧ g_M_takes F w D' = some (b01 true, D1') ∧ g_M_advance F D' = some D1' ∧ LK D D' D1 D1' t ∧ D1' 116 12 = 0 := by
  obtain ⟨D1, D1', a1, a2, a3⟩ := word_LK hF w1 w2 h
  obtain ⟨D2, D2', b1, b2, b3, b4, b5, b6⟩ := adv_RT hF (h.1.2.2.2 g)
  have et : g_M_takes F w D' = some (b01 true, D2') := by
    unfold g_M_takes
    rw [e, ob_some, if_neg (show ¬ b01 true = 0 by decide), b2, ob_some]
    exact zk_1
  unfold g_M_needs at a2
  rw [et, ob_some, if_neg (show ¬ b01 true = 0 by decide)] at a2
  obtain rfl := Option.some.inj a2
  exact ⟨D1, D2', a1, et, b2, a3, by rw [b6 12 (by decide) (by decide) (by decide) (by decide)]; exact g⟩
theorem takes_no {w : Nat} (e : g_M_is F D w = some (b01 false)) : g_M_takes F w D = some (b01 false, D) := by
  unfold g_M_takes
  rw [e, ob_some, if_pos (show b01 false = 0 from rfl)]
  exact zk_0
theorem needs_B {w : Nat} (w1 : 1000 ≤ w) (w2 : w ≤ 1020) (hF : 2000 ≤ F) (g : ¬ D 116 12 = 0) : g_M_needs F w D = some D := by
  unfold g_M_needs
  rw [takes_no (is_bad (wd w1 w2) (by omega) g), ob_some, if_pos (show b01 false = 0 from rfl), (errs_M D (nI 1)).2.2.2.2 g]
theorem number_B (a b : Int32) (g : ¬ D 116 12 = 0) : g_M_number F a b D = some (nI 0, D) := by
  have gb : g_M_good D = nI 0 := by unfold g_M_good; rw [if_neg g]
  unfold g_M_number b_M_number_20 b_M_number_47
  rw [gb, if_pos (show nI 0 = 0 from rfl), if_pos (show nI 0 = 0 from rfl), if_pos (show nI 0 = 0 from rfl)]
theorem told_B {w : Nat} (w1 : 1000 ≤ w) (w2 : w ≤ 1020) (hF : 2000 ≤ F) (a b : Int32) (g : ¬ D 116 12 = 0) : g_M_told F w a b D = some (nI 0, D) := by
  unfold g_M_told
  rw [needs_B w1 w2 hF g, ob_some, number_B a b g, ob_some]
/-- a number that may be taken already: the class refuses it behind, the reference ahead -/
theorem numIf (hF : 2000 ≤ F) {t : Nat} (h : S2 D D' t) {a b a' b' : Int32} (hab : D' 116 12 = 0 → a = a' ∧ b = b' ∧ b.toInt ≤ 1000) (cb : Int32 → Bool) (cm : Bool) (hg : cm = true → D' 116 12 = 0) (hc : D' 116 12 = 0 → (cm = true ↔ D' 116 10 = nI 2 ∧ a ≤ D' 116 11 ∧ D' 116 11 ≤ b ∧ cb (D' 116 11) = true)) : ∃ r r' D1 D1', g_Reader_takeNumber F a b D = some (r, D1) ∧ g_M_number F a' b' (if cm = true then g_M_errs (nI 2) D' else D') = some (r', D1') ∧ (XF D D1 ∧ XP D1 t) ∧ (∀ x : Bool, (D1 3 1 = 0 → x = cb r) → LK D D' (g_Reader_refuseNumberIf (b01 x) D1) D1' t) ∧ (D1' 116 12 = 0 → D1 3 1 = 0 ∧ r = r' ∧ a ≤ r ∧ r ≤ b ∧ cb r = false) ∧ (D1 3 1 = 0 → a ≤ r ∧ r ≤ b) ∧ (¬ D1 3 1 = 0 → r = -1) := by
  obtain ⟨r, r', D1, D1', a1, a2, a3, a4, a5, a6⟩ := num_LK hF h hab
  obtain ⟨l1, l2, l3, l4⟩ := a3
  by_cases hcm : cm = true
  · have g := hg hcm
    obtain ⟨c1, c2, c3, c4⟩ := (hc g).mp hcm
    obtain ⟨rfl, rfl, hb⟩ := hab g
    have gg : g_M_good D' = nI 1 := by unfold g_M_good; rw [if_pos g]
    obtain ⟨D2, D2', b1, b2, b3, b4, b5, b6⟩ := adv_RT hF (h.1.2.2.2 g)
    have en : g_M_number F a b D' = some (D' 116 11, D2') := by
      unfold g_M_number b_M_number_20 b_M_number_47
      rw [gg, if_neg (show ¬ nI 1 = 0 by decide), if_pos c1, if_neg (show ¬ nI 1 = 0 by decide), in_ii, decide_eq_true c2, decide_eq_true c3, if_neg (show ¬ b01 (true && true) = 0 by decide), if_neg (show ¬ nI 1 = 0 by decide), b2, ob_some]
    rw [en] at a2
    obtain ⟨-, rfl⟩ := Prod.mk.inj (Option.some.inj a2)
    have g2 : D2' 116 12 = 0 := by rw [b6 12 (by decide) (by decide) (by decide) (by decide)]; exact g
    obtain ⟨d1, d2, d3, d4, d5⟩ := a5 g2
    have dx : D1 3 1 = 0 := l1.1.1.trans g2
    obtain ⟨m1, m2, m3, m4, m5⟩ := errs_M D' (nI 2)
    rw [if_pos g] at m3 m4
    have hbad : ¬ g_M_errs (nI 2) D' 116 12 = 0 := by rw [m3]; decide
    rw [if_pos hcm]
    refine ⟨r, _, D1, _, a1, number_B _ _ hbad, ⟨l2, l1.1.2.2.1⟩, fun x hx => ?_, fun e => absurd e hbad, fun _ => ⟨d2, d3⟩, fun e => absurd dx e⟩
    have hx2 : x = true := by rw [hx dx, ← d5]; exact c4
    subst hx2
    obtain ⟨r1, r2, r3, r4⟩ := refuseIf_X D1 true
    rw [if_pos ⟨rfl, dx⟩] at r3 r4
    refine ⟨⟨⟨?_, ?_, XP_of l1.1.2.2.1 r1 (fun j h1 h2 => r2 j (by omega) (by omega)), fun e => absurd e hbad⟩, ?_⟩, XF_t l2 r1, ⟨m1, fun j hj => m2 j (by omega) (by omega), m5⟩, ?_⟩
    · rw [r3, m3]
    · obtain ⟨h1, h2, h3, h4, h5, p, q, k, q1, q2, q3, q4, q5, q6, q7⟩ := h.1.2.2.2 g
      rw [r4, m4, a4, q5.1, q5.2]
    · have := l1.2
      unfold PG at this ⊢
      rw [r2 4 (by decide) (by decide), r2 5 (by decide) (by decide), r2 6 (by decide) (by decide)]
      exact this
    · unfold MO at l4 ⊢
      rw [r2 6 (by decide) (by decide)]
      exact l4
  · rw [if_neg hcm]
    refine ⟨r, r', D1, D1', a1, a2, ⟨l2, l1.1.2.2.1⟩, fun x hx => ?_, fun e => ?_, fun e => ?_, fun e => a6 (fun q => e (l1.1.1.trans q))⟩
    · have no : D1 3 1 = 0 → x = false := fun e => by
        have ge : D1' 116 12 = 0 := l1.1.1 ▸ e
        obtain ⟨d1, d2, d3, d4, d5⟩ := a5 ge
        have g := MF_g l3 ge
        rw [hx e]
        cases hz : cb r
        · rfl
        · exact absurd ((hc g).mpr ⟨d4, by rw [d5]; exact d2, by rw [d5]; exact d3, by rw [d5]; exact hz⟩) hcm
      have er : g_Reader_refuseNumberIf (b01 x) D1 = D1 := by
        unfold g_Reader_refuseNumberIf
        cases x
        · exact if_pos rfl
        · rw [if_neg (show ¬ b01 true = 0 by decide)]
          unfold g_Reader_refuse
          by_cases e : D1 3 1 = 0
          · exact absurd (no e) (by decide)
          · rw [if_neg e]
      rw [er]
      exact ⟨l1, l2, l3, l4⟩
    · obtain ⟨d1, d2, d3, d4, d5⟩ := a5 e
      have g := MF_g l3 e
      refine ⟨l1.1.1.trans e, d1, d2, d3, ?_⟩
      cases hz : cb r
      · rfl
      · exact absurd ((hc g).mpr ⟨d4, by rw [d5]; exact d2, by rw [d5]; exact d3, by rw [d5]; exact hz⟩) hcm
    · have ge : D1' 116 12 = 0 := l1.1.1 ▸ e
      obtain ⟨d1, d2, d3, d4, d5⟩ := a5 ge
      exact ⟨d2, d3⟩
end R2
