/-! ===== the tape ===== -/
section TA
variable {D : mx_D} {E : mx_E} {F : Nat}
/-- byte k of four of a number, the highest first -/
def by8 (a : Int32) (k : Nat) : Int32 := (a >>> (nI (24 - 8 * k) &&& 31)).toInt8.toInt32
theorem by8_r (a : Int32) (k : Nat) : -128 ≤ (by8 a k).toInt ∧ (by8 a k).toInt ≤ 127 := by
  unfold by8
  rw [Int8.toInt_toInt32]
  have h1 := Int8.le_toInt (a >>> (nI (24 - 8 * k) &&& 31)).toInt8
  have h2 := Int8.toInt_lt (a >>> (nI (24 - 8 * k) &&& 31)).toInt8
  omega
/-- a tie in which the tape alone is another -/
theorem RL_t {D2 : mx_D} (h : RL D E) (hT : TP D2) (f : ∀ c, c ≠ 1 → c ≠ 2 → c ≠ 116 → c ≠ 120 → c ≠ 121 → D2 c = D c) (g : D2 116 12 = D 116 12 ∧ D2 116 13 = D 116 13) : RL D2 E := by
  obtain ⟨h1, h2, h3, h4, h5, h6, h7⟩ := h
  have e := f 117 (by decide) (by decide) (by decide) (by decide) (by decide)
  refine ⟨by rw [e]; exact h1, by rw [e]; exact h2, ?_, hT, ?_, fun k hk => ?_, fun s hs => ?_⟩
  · rw [e]
    exact CH_of h3 (fun k q1 q2 => f k (by omega) (by omega) (by omega) (by omega) (by omega))
  · rw [f 3 (by decide) (by decide) (by decide) (by decide) (by decide), g.1, g.2]
    exact h5
  · have q := h6 k hk
    have ei : img D2 k = img D k := by unfold img; rw [f 118 (by decide) (by decide) (by decide) (by decide) (by decide)]
    unfold IM at q ⊢
    rw [f 61 (by decide) (by decide) (by decide) (by decide) (by decide), f 119 (by decide) (by decide) (by decide) (by decide) (by decide), ei]
    exact ⟨q.1, q.2.imp id (fun z => ⟨z.1, CH_of z.2.1 (fun k q1 q2 => f k (by omega) (by omega) (by omega) (by omega) (by omega)), z.2.2⟩)⟩
  · have q := h7 s hs
    unfold SL at q ⊢
    rw [f (108 + 2 * s) (by omega) (by omega) (by omega) (by omega) (by omega), f 137 (by decide) (by decide) (by decide) (by decide) (by decide), f 138 (by decide) (by decide) (by decide) (by decide) (by decide)]
    exact q
theorem op_end (h : RL D E) (a : Int32) : ∃ r D1 D2, g_X_end a D = (r, D1) ∧ g_M_end a D1 = (r, D2) ∧ RL D2 E := by
  obtain ⟨t, ht, t1, t2, t3⟩ := h.2.2.2.1
  unfold g_X_end
  rw [t1, rng_s a (m := t) (by omega)]
  rcases vx_c a (t + 1) (by omega) with q | ⟨n, hn, rfl⟩
  · refine ⟨-1, D, D, by rw [q]; rfl, ?_, h⟩
    unfold g_M_end
    rw [t2, nI_l (n := t) (by omega), M_in_i a (n := t) (lN_toInt (by omega)), q, b01_if]
    rfl
  · refine ⟨nI n, sD D 1 1 (nI n), sD (sD D 1 1 (nI n)) 116 5 (nI n), by rw [vx_nI (by omega), decide_eq_true hn]; rfl, ?_, ?_⟩
    · unfold g_M_end
      rw [sD_ne _ _ _ _ (show 116 ≠ 1 by decide), t2, nI_l (n := t) (by omega), M_in_i (nI n) (n := t) (lN_toInt (by omega)), vx_nI (by omega), decide_eq_true hn, b01_if]
      rfl
    · refine RL_t h ⟨n, by omega, ?_, ?_, fun j hj => ?_⟩ (fun c q1 q2 q3 q4 q5 => ?_) ⟨?_, ?_⟩
      · rw [sD_ne _ _ _ _ (show 1 ≠ 116 by decide), sD_eq]
      · rw [sD_eq]
      · rw [sD_ne _ _ _ _ (show 2 ≠ 116 by decide), sD_ne _ _ _ _ (show 2 ≠ 1 by decide), sD_ne _ _ _ _ (show 120 ≠ 116 by decide), sD_ne _ _ _ _ (show 120 ≠ 1 by decide)]
        exact t3 j (by omega)
      · rw [sD_nr _ _ _ q3, sD_nr _ _ _ q1]
      · rw [sD_nj _ _ _ (by decide), sD_ne _ _ _ _ (by decide)]
      · rw [sD_nj _ _ _ (by decide), sD_ne _ _ _ _ (by decide)]
theorem Tape_add_s (hF : 100 ≤ F) {t : Nat} (ht : t + 4 ≤ 1400) (h1 : D 1 1 = nI t) (a : Int32) : ∃ D', g_Tape_add F a D = some D' ∧ D' 1 1 = nI (t + 4) ∧ (∀ c, c ≠ 1 → c ≠ 2 → D' c = D c) ∧ (∀ j, j < t → D' 2 j = D 2 j) ∧ ∀ k, k < 4 → D' 2 (t + k) = by8 a k := by
  unfold g_Tape_add
  have key := lp0 (F := F) (s := D) (fun k (s : mx_D) => s 1 1 = nI (t + k) ∧ (∀ c, c ≠ 1 → c ≠ 2 → s c = D c) ∧ (∀ j, j < t → s 2 j = D 2 j) ∧ ∀ i, i < k → s 2 (t + i) = by8 a i) (fun D' => D' 1 1 = nI (t + 4) ∧ (∀ c, c ≠ 1 → c ≠ 2 → D' c = D c) ∧ (∀ j, j < t → D' 2 j = D 2 j) ∧ ∀ k, k < 4 → D' 2 (t + k) = by8 a k) (fun f k s => g_Tape_add_3 F f a (iI (24 - 8 * (k : Int))) s) (n := 4) (by omega) ⟨h1, fun _ _ _ => rfl, fun _ _ => rfl, fun i hi => absurd hi (Nat.not_lt_zero i)⟩ (fun f k s hk hI => ?_) (fun f s hI => ?_)
  · exact key
  · obtain ⟨i1, i2, i3, i4⟩ := hI
    refine ⟨sD (sD s 2 (t + k) (by8 a k)) 1 1 (nI (t + (k + 1))), ⟨sD_eq _ _ _ _, fun c q1 q2 => ?_, fun j hj => ?_, fun i hi => ?_⟩, ?_⟩
    · rw [sD_nr _ _ _ q1, sD_nr _ _ _ q2, i2 c q1 q2]
    · rw [sD_ne _ _ _ _ (show 2 ≠ 1 by decide), sD_nj _ _ _ (by omega), i3 j hj]
    · rw [sD_ne _ _ _ _ (show 2 ≠ 1 by decide)]
      by_cases c : i = k
      · subst c
        rw [sD_eq]
      · rw [sD_nj _ _ _ (by omega), i4 i (by omega)]
    · have e24 : iI (24 - 8 * (k : Int)) = nI (24 - 8 * k) := by
        rw [iI_nI]
        congr 1
        omega
      have em : iI (24 - 8 * (k : Int)) + (-8 : Int32) = iI (24 - 8 * ((k + 1 : Nat) : Int)) := by
        rw [show (-8 : Int32) = iI (-8) from rfl, iI_add]
        congr 1
        omega
      show g_Tape_add_3 F (f + 1) _ _ _ = _
      rw [s_Tape_add_3]
      unfold b_Tape_add_3
      rw [em, e24, if_neg (nI_pos (by omega)), i1, if_neg (nI_ge (by omega) (by decide)), rk_in (by omega) (by decide), nI_clamp (by omega), sD_ne _ _ _ _ (show 1 ≠ 2 by decide), i1, nI_add, pk_vb]
      rfl
  · refine ⟨s, ?_, hI⟩
    show g_Tape_add_3 F (f + 1) _ _ _ = _
    rw [s_Tape_add_3]
    unfold b_Tape_add_3
    rw [if_pos (by decide)]
theorem op_feed (hF : 1000 ≤ F) (h : RL D E) (a b c d e : Int32) : ∃ r D1 D2, g_X_feed F a b c d e D = some (r, D1) ∧ g_M_feed F a b c d e D1 = some (r, D2) ∧ RL D2 E := by
  obtain ⟨t, ht, t1, t2, t3⟩ := h.2.2.2.1
  have eR : g_Tape_hasRoom D = b01 (decide (t + 20 ≤ 1400)) := by
    unfold g_Tape_hasRoom
    rw [t1, nI_add]
    by_cases q : t + 20 ≤ 1400
    · rw [if_neg (nI_nlt q (by omega)), decide_eq_true q]
      rfl
    · rw [if_pos (nI_lt (by omega) (by omega)), decide_eq_false q]
      rfl
  unfold g_X_feed
  rw [eR, b01_if]
  by_cases hq : t + 20 ≤ 1400
  · rw [decide_eq_true hq, if_pos rfl]
    obtain ⟨D1, a1, a2, a3, a4, a5⟩ := Tape_add_s (F := F) (D := D) (by omega) (t := t) (by omega) t1 a
    obtain ⟨D2, b1, b2, b3, b4, b5⟩ := Tape_add_s (F := F) (D := D1) (by omega) (t := t + 4) (by omega) a2 b
    obtain ⟨D3, c1, c2, c3, c4, c5⟩ := Tape_add_s (F := F) (D := D2) (by omega) (t := t + 4 + 4) (by omega) b2 c
    obtain ⟨D4, d1, d2, d3, d4, d5⟩ := Tape_add_s (F := F) (D := D3) (by omega) (t := t + 4 + 4 + 4) (by omega) c2 d
    obtain ⟨D5, e1, e2, e3, e4, e5⟩ := Tape_add_s (F := F) (D := D4) (by omega) (t := t + 4 + 4 + 4 + 4) (by omega) d2 e
    rw [a1, ob_some, b1, ob_some, c1, ob_some, d1, ob_some, e1, ob_some, e2]
    have hf : ∀ c, c ≠ 1 → c ≠ 2 → D5 c = D c := fun c q1 q2 => by rw [e3 c q1 q2, d3 c q1 q2, c3 c q1 q2, b3 c q1 q2, a3 c q1 q2]
    let arg : Nat → Int32 := fun i => if i = 0 then a else if i = 1 then b else if i = 2 then c else if i = 3 then d else e
    have hold : ∀ j, j < t → D5 2 j = D 2 j := fun j hj => by rw [e4 j (by omega), d4 j (by omega), c4 j (by omega), b4 j (by omega), a4 j hj]
    have hnew : ∀ k, k < 20 → D5 2 (t + k) = by8 (arg (k / 4)) (k % 4) := by
      intro k hk
      have hm : k % 4 < 4 := Nat.mod_lt _ (by decide)
      have hkk : k = 4 * (k / 4) + k % 4 := (Nat.div_add_mod k 4).symm
      rcases (show k / 4 = 0 ∨ k / 4 = 1 ∨ k / 4 = 2 ∨ k / 4 = 3 ∨ k / 4 = 4 by omega) with q | q | q | q | q
      · rw [q, e4 _ (by omega), d4 _ (by omega), c4 _ (by omega), b4 _ (by omega), show t + k = t + k % 4 by omega, a5 _ hm]
        rfl
      · rw [q, e4 _ (by omega), d4 _ (by omega), c4 _ (by omega), show t + k = t + 4 + k % 4 by omega, b5 _ hm]
        rfl
      · rw [q, e4 _ (by omega), d4 _ (by omega), show t + k = t + 4 + 4 + k % 4 by omega, c5 _ hm]
        rfl
      · rw [q, e4 _ (by omega), show t + k = t + 4 + 4 + 4 + k % 4 by omega, d5 _ hm]
        rfl
      · rw [q, show t + k = t + 4 + 4 + 4 + 4 + k % 4 by omega, e5 _ hm]
        rfl
    refine ⟨nI (t + 20), D5, ?_⟩
    unfold g_M_feed
    rw [hf 116 (by decide) (by decide), t2, nI_add, if_pos (nI_le hq (by decide))]
    have key := lp0 (F := F) (s := sD (sD (sD (sD (sD D5 121 0 a) 121 1 b) 121 2 c) 121 3 d) 121 4 e) (fun k (s : mx_D) => (∀ c, c ≠ 120 → c ≠ 121 → s c = D5 c) ∧ (∀ i, i < 5 → s 121 i = arg i) ∧ (∀ j, j < t → s 120 j = D 120 j) ∧ ∀ i, i < k → s 120 (t + i) = by8 (arg (i / 4)) (i % 4)) (fun (r : Int32 × mx_D) => r.1 = nI (t + 20) ∧ r.2 116 5 = nI (t + 20) ∧ (∀ j, j ≠ 5 → r.2 116 j = D5 116 j) ∧ (∀ c, c ≠ 116 → c ≠ 120 → c ≠ 121 → r.2 c = D5 c) ∧ (∀ j, j < t → r.2 120 j = D 120 j) ∧ ∀ i, i < 20 → r.2 120 (t + i) = by8 (arg (i / 4)) (i % 4)) (fun f k s => g_M_feed_55 F f (nI k) s) (n := 20) (by omega) ⟨fun c q1 q2 => ?_, fun i hi => ?_, fun j hj => ?_, fun i hi => absurd hi (Nat.not_lt_zero i)⟩ (fun f k s hk hI => ?_) (fun f s hI => ?_)
    · obtain ⟨r, k1, k2, k3, k4, k5, k6, k7⟩ := key
      refine ⟨r.2, ?_, by rw [← k2]; exact k1, ?_⟩
      · rw [show t + 4 + 4 + 4 + 4 + 4 = t + 20 by omega]
      · refine RL_t h ⟨t + 20, hq, ?_, k3, fun j hj => ?_⟩ (fun c q1 q2 q3 q4 q5 => ?_) ⟨?_, ?_⟩
        · rw [k5 1 (by decide) (by decide) (by decide), e2]
        · rw [k5 2 (by decide) (by decide) (by decide)]
          rcases Nat.lt_or_ge j t with q | q
          · rw [hold j q, k6 j q]
            exact t3 j q
          · obtain ⟨i, rfl⟩ : ∃ i, j = t + i := ⟨j - t, by omega⟩
            rw [hnew i (by omega), k7 i (by omega)]
            exact ⟨rfl, by8_r _ _⟩
        · rw [k5 c q3 q4 q5, hf c q1 q2]
        · rw [k4 12 (by decide), hf 116 (by decide) (by decide)]
        · rw [k4 13 (by decide), hf 116 (by decide) (by decide)]
    · rw [sD_nr _ _ _ q2, sD_nr _ _ _ q2, sD_nr _ _ _ q2, sD_nr _ _ _ q2, sD_nr _ _ _ q2]
    · rcases (show i = 0 ∨ i = 1 ∨ i = 2 ∨ i = 3 ∨ i = 4 by omega) with rfl | rfl | rfl | rfl | rfl
      · rw [sD_nj _ _ _ (by decide), sD_nj _ _ _ (by decide), sD_nj _ _ _ (by decide), sD_nj _ _ _ (by decide), sD_eq]
        rfl
      · rw [sD_nj _ _ _ (by decide), sD_nj _ _ _ (by decide), sD_nj _ _ _ (by decide), sD_eq]
        rfl
      · rw [sD_nj _ _ _ (by decide), sD_nj _ _ _ (by decide), sD_eq]
        rfl
      · rw [sD_nj _ _ _ (by decide), sD_eq]
        rfl
      · rw [sD_eq]
        rfl
    · rw [sD_ne _ _ _ _ (by decide), sD_ne _ _ _ _ (by decide), sD_ne _ _ _ _ (by decide), sD_ne _ _ _ _ (by decide), sD_ne _ _ _ _ (by decide), hf 120 (by decide) (by decide)]
    · obtain ⟨i1, i2, i3, i4⟩ := hI
      have hm : k % 4 < 4 := Nat.mod_lt _ (by decide)
      have e116 : s 116 5 = nI t := by rw [i1 116 (by decide) (by decide), hf 116 (by decide) (by decide), t2]
      refine ⟨sD s 120 (t + k) (by8 (arg (k / 4)) (k % 4)), ⟨fun c q1 q2 => ?_, fun i hi => ?_, fun j hj => ?_, fun i hi => ?_⟩, ?_⟩
      · rw [sD_nr _ _ _ q1, i1 c q1 q2]
      · rw [sD_ne _ _ _ _ (by decide), i2 i hi]
      · rw [sD_nj _ _ _ (by omega), i3 j hj]
      · by_cases c : i = k
        · subst c
          rw [sD_eq]
        · rw [sD_nj _ _ _ (by omega), i4 i (by omega)]
      · show g_M_feed_55 F (f + 1) _ _ = _
        rw [s_M_feed_55]
        unfold b_M_feed_55
        rw [if_neg (nI_ge hk (by decide)), pk_rem (by omega) (by decide) (by decide), pk_div (by omega) (by decide) (by decide), rk_in (by omega) (by decide), nI_clamp (by omega), e116, nI_add, rk_in (by omega) (by decide), nI_clamp (by omega), i2 (k / 4) (by omega), pk_mul, pk_sub (by omega), nI_add, pk_vb]
        rfl
    · obtain ⟨i1, i2, i3, i4⟩ := hI
      have e116 : s 116 5 = nI t := by rw [i1 116 (by decide) (by decide), hf 116 (by decide) (by decide), t2]
      refine ⟨(nI (t + 20), sD s 116 5 (nI (t + 20))), ?_, rfl, (by dsimp only; rw [sD_eq]), fun j hj => ?_, fun c q1 q2 q3 => ?_, fun j hj => ?_, fun i hi => ?_⟩
      · show g_M_feed_55 F (f + 1) _ _ = _
        rw [s_M_feed_55]
        unfold b_M_feed_55
        rw [if_pos (by decide), e116, nI_add, sD_eq]
      · show sD s 116 5 (nI (t + 20)) 116 j = _
        rw [sD_nj _ _ _ hj, i1 116 (by decide) (by decide)]
      · show sD s 116 5 (nI (t + 20)) c = _
        rw [sD_nr _ _ _ q1, i1 c q2 q3]
      · show sD s 116 5 (nI (t + 20)) 120 j = _
        rw [sD_ne _ _ _ _ (by decide), i3 j hj]
      · show sD s 116 5 (nI (t + 20)) 120 (t + i) = _
        rw [sD_ne _ _ _ _ (by decide), i4 i hi]
  · rw [decide_eq_false hq, if_neg (by decide)]
    refine ⟨-1, D, D, rfl, ?_, h⟩
    unfold g_M_feed
    rw [t2, nI_add, if_neg (nI_ge (by omega) (by omega))]
end TA
