/-! ===== first specs: the reference's leaves ===== -/
theorem s_M_in (X : ev_X) (d : Nat) (v lo hi : Int64) (D : mx_D) (E : mx_E) : ev X d 183 (0, mx_ent 6 [.long v, .long lo, .long hi], [], D, E) (fun r D' E' => r = some (.int (if lo ≤ v ∧ v ≤ hi then 1 else 0)) ∧ D' = D ∧ E' = E) := by
  have hq : kq_m 183 = some kq_q183 := rfl
  refine ev_a hq 3 3 rfl rfl ?_
  refine ev_b hq rfl rfl 17 6 rfl rfl (fun c => ?_) (fun c => ?_)
  · refine ev_a hq 1 18 rfl rfl ?_
    refine ev_ret hq rfl rfl ⟨?_, rfl, rfl⟩
    rw [if_neg (fun q => by have := (lg_cmp_lt v lo).mp c; rw [Int64.lt_iff_toInt_lt] at this; have q1 := q.1; rw [Int64.le_iff_toInt_le] at q1; omega)]
    rfl
  · refine ev_a hq 3 10 rfl rfl ?_
    have c1 : lo ≤ v := by
      have : ¬ v < lo := fun q => c ((lg_cmp_lt v lo).mpr q)
      rw [Int64.lt_iff_toInt_lt] at this
      rw [Int64.le_iff_toInt_le]
      omega
    refine ev_b hq rfl rfl 17 13 rfl rfl (fun c2 => ?_) (fun c2 => ?_)
    · refine ev_a hq 1 18 rfl rfl ?_
      refine ev_ret hq rfl rfl ⟨?_, rfl, rfl⟩
      rw [if_neg (fun q => by have := (lg_cmp_gt v hi).mp c2; rw [Int64.lt_iff_toInt_lt] at this; have q1 := q.2; rw [Int64.le_iff_toInt_le] at q1; omega)]
      rfl
    · refine ev_a hq 2 18 rfl rfl ?_
      have c3 : v ≤ hi := by
        have : ¬ hi < v := fun q => c2 ((lg_cmp_gt v hi).mpr q)
        rw [Int64.lt_iff_toInt_lt] at this
        rw [Int64.le_iff_toInt_le]
        omega
      refine ev_ret hq rfl rfl ⟨?_, rfl, rfl⟩
      rw [if_pos ⟨c1, c3⟩]
      rfl
theorem s_M_of (X : ev_X) (d : Nat) (a w : Int32) (D : mx_D) (E : mx_E) (h : ¬ (40 + 6 * a + w < 0 ∨ 106 ≤ (40 + 6 * a + w).toNatClampNeg)) : ev X d 213 (0, mx_ent 3 [.ref 116, .int a, .int w], [], D, E) (fun r D' E' => r = some (.int (D 117 (40 + 6 * a + w).toNatClampNeg)) ∧ D' = D ∧ E' = E) := by
  have hq : kq_m 213 = some kq_q213 := rfl
  refine ev_a hq 9 13 rfl rfl ?_
  refine ev_c hq rfl rfl 14 rfl h ?_
  exact ev_ret hq rfl rfl ⟨rfl, rfl, rfl⟩
/-- a person's own number k, by naturals -/
theorem s_M_of' (X : ev_X) (d a w : Nat) (ha : a < 8) (hw : w < 6) (D : mx_D) (E : mx_E) : ev X d 213 (0, mx_ent 3 [.ref 116, .int (nI a), .int (nI w)], [], D, E) (fun r D' E' => r = some (.int (D 117 (40 + 6 * a + w))) ∧ D' = D ∧ E' = E) := by
  have e : (40 : Int32) + 6 * nI a + nI w = nI (40 + 6 * a + w) := by
    rw [show (40 : Int32) = nI 40 from rfl, show (6 : Int32) = nI 6 from rfl, pk_mul, nI_add, nI_add]
  have h := s_M_of X d (nI a) (nI w) D E (by rw [e]; exact nI_in (by omega) (by decide))
  rw [e, nI_clamp (by omega)] at h
  exact h
theorem s_M_sits (X : ev_X) (d a : Nat) (hd : 1 ≤ d) (ha : a < 8) (D : mx_D) (E : mx_E) : ev X d 234 (0, mx_ent 2 [.ref 116, .int (nI a)], [], D, E) (fun r D' E' => r = some (.int (if D 117 (40 + 6 * a + 3) = -1 then 0 else 1)) ∧ D' = D ∧ E' = E) := by
  have hq : kq_m 234 = some kq_q234 := rfl
  obtain ⟨d', rfl⟩ : ∃ d', d = d' + 1 := ⟨d - 1, by omega⟩
  refine ev_a hq 3 3 rfl rfl ?_
  refine ev_d hq rfl rfl rfl rfl rfl rfl (s_M_of' X d' a 3 ha (by decide) D E) 6 rfl (fun r D' E' hr => ?_)
  obtain ⟨rfl, rfl, rfl⟩ := hr
  refine ev_a hq 1 7 rfl rfl ?_
  refine ev_b hq rfl rfl 14 10 rfl rfl (fun c => ?_) (fun c => ?_)
  · refine ev_a hq 1 15 rfl rfl ?_
    refine ev_ret hq rfl rfl ⟨?_, rfl, rfl⟩
    rw [if_pos (show D' 117 (40 + 6 * a + 3) = -1 from c)]
    rfl
  · refine ev_a hq 2 15 rfl rfl ?_
    refine ev_ret hq rfl rfl ⟨?_, rfl, rfl⟩
    rw [if_neg (show ¬ D' 117 (40 + 6 * a + 3) = -1 from c)]
    rfl
/-- M.sitters by naturals: the first n people's bits -/
def m_sit (w : Nat → Int32) : Nat → Int32
  | 0 => 0
  | n + 1 => m_sit w n ||| (if w (40 + 6 * n + 3) = -1 then (0 : Int32) else (1 : Int32) <<< (nI n &&& 31))
theorem s_M_sitters_loop (X : ev_X) (d n : Nat) (hd : 2 ≤ d) (D : mx_D) (E : mx_E) (hn : D 117 4 = nI n) (h8 : n ≤ 8) : ∀ k a, n - a = k → a ≤ n → ev X d 237 (4, [some (.ref 116), some (.int (m_sit (D 117) a)), some (.int (nI a))], [], D, E) (fun r D' E' => r = some (.int (m_sit (D 117) n)) ∧ D' = D ∧ E' = E) := by
  have hq : kq_m 237 = some kq_q237 := rfl
  obtain ⟨d', rfl⟩ : ∃ d', d = d' + 1 := ⟨d - 1, by omega⟩
  intro k
  induction k with
  | zero =>
    intro a hk ha
    obtain rfl : a = n := by omega
    refine ev_a hq 5 11 rfl rfl ?_
    refine ev_b hq rfl rfl 38 14 rfl rfl (fun c => ?_) (fun c => ?_)
    · refine ev_a hq 1 39 rfl rfl ?_
      exact ev_ret hq rfl rfl ⟨rfl, rfl, rfl⟩
    · exact absurd (by show D 117 4 ≤ nI a; rw [hn]; exact nI_le (Nat.le_refl _) (by omega)) c
  | succ k ih =>
    intro a hk ha
    refine ev_a hq 5 11 rfl rfl ?_
    refine ev_b hq rfl rfl 38 14 rfl rfl (fun c => ?_) (fun c => ?_)
    · exact absurd (show D 117 4 ≤ nI a from c) (by rw [hn]; exact nI_ge (by omega) (by omega))
    · refine ev_a hq 3 17 rfl rfl ?_
      refine ev_d hq rfl rfl rfl rfl rfl rfl (s_M_sits X d' a (by omega) (by omega) D E) 20 rfl (fun r D' E' hr => ?_)
      obtain ⟨rfl, rfl, rfl⟩ := hr
      have e1 : nI a + Int32.ofInt 1 = nI (a + 1) := nI_1 a
      refine ev_b hq rfl rfl 29 23 rfl rfl (fun c2 => ?_) (fun c2 => ?_)
      · refine ev_a hq 5 4 rfl rfl ?_
        have := ih (a + 1) (by omega) (by omega)
        have hs : D' 117 (40 + 6 * a + 3) = -1 := by
          by_cases hz : D' 117 (40 + 6 * a + 3) = -1
          · exact hz
          · have c2 : (if D' 117 (40 + 6 * a + 3) = -1 then (0 : Int32) else 1) = 0 := c2
            rw [if_neg hz] at c2
            exact absurd c2 (by decide)
        simp only [m_sit, if_pos hs] at this
        rw [← e1] at this
        exact this
      · refine ev_a hq 8 4 rfl rfl ?_
        have := ih (a + 1) (by omega) (by omega)
        have hs : ¬ D' 117 (40 + 6 * a + 3) = -1 := fun hz => by
          have c2 : ¬ (if D' 117 (40 + 6 * a + 3) = -1 then (0 : Int32) else 1) = 0 := c2
          rw [if_pos hz] at c2
          exact c2 rfl
        simp only [m_sit, if_neg hs] at this
        rw [← e1] at this
        exact this
theorem s_M_sitters (X : ev_X) (d n : Nat) (hd : 2 ≤ d) (D : mx_D) (E : mx_E) (hn : D 117 4 = nI n) (h8 : n ≤ 8) : ev X d 237 (0, mx_ent 3 [.ref 116], [], D, E) (fun r D' E' => r = some (.int (m_sit (D 117) n)) ∧ D' = D ∧ E' = E) := by
  have hq : kq_m 237 = some kq_q237 := rfl
  refine ev_a hq 4 4 rfl rfl ?_
  exact s_M_sitters_loop X d n hd D E hn h8 n 0 (by omega) (by omega)
