/-! ===== the reference: how high one is ===== -/
/-- the books of a, of the first n -/
def m_bk (w : Nat → Int32) (a : Int32) : Nat → Int32
  | 0 => 0
  | n + 1 => m_bk w a n + (if w (96 + 2 * n + 1) = a then w (96 + 2 * n) else 0)
theorem s_M_booksOf_loop (X : ev_X) (d n : Nat) (a : Int32) (hd : 1 ≤ d) (D : mx_D) (E : mx_E) (hn : D 117 6 = nI n) (h8 : n ≤ 5) : ∀ k b, n - b = k → b ≤ n → ev X d 233 (4, [some (.ref 116), some (.int a), some (.int (m_bk (D 117) a b)), some (.int (nI b))], [], D, E) (fun r D' E' => r = some (.int (m_bk (D 117) a n)) ∧ D' = D ∧ E' = E) := by
  have hq : kq_m 233 = some kq_q233 := rfl
  obtain ⟨d', rfl⟩ : ∃ d', d = d' + 1 := ⟨d - 1, by omega⟩
  intro k
  induction k with
  | zero =>
    intro b hk hb
    obtain rfl : b = n := by omega
    refine ev_a hq 5 12 rfl rfl ?_
    refine ev_b hq rfl rfl 48 15 rfl rfl (fun c1 => ?_) (fun c1 => ?_)
    · refine ev_a hq 1 49 rfl rfl ?_
      exact ev_ret hq rfl rfl ⟨rfl, rfl, rfl⟩
    · exact absurd (by show D 117 6 ≤ nI b; rw [hn]; exact nI_le (Nat.le_refl _) (by omega)) c1
  | succ k ih =>
    intro b hk hb
    refine ev_a hq 5 12 rfl rfl ?_
    refine ev_b hq rfl rfl 48 15 rfl rfl (fun c1 => ?_) (fun c1 => ?_)
    · exact absurd (show D 117 6 ≤ nI b from c1) (by rw [hn]; exact nI_ge (by omega) (by omega))
    · refine ev_a hq 3 18 rfl rfl ?_
      refine ev_d hq rfl rfl rfl rfl rfl rfl (s_M_standsOn X d' b (by omega) D E) 21 rfl (fun r D' E' hr => ?_)
      obtain ⟨rfl, rfl, rfl⟩ := hr
      have e1 : nI b + Int32.ofInt 1 = nI (b + 1) := nI_1 b
      have := ih (b + 1) (by omega) (by omega)
      refine ev_a hq 1 22 rfl rfl ?_
      refine ev_b hq rfl rfl 25 39 rfl rfl (fun c2 => ?_) (fun c2 => ?_)
      · refine ev_a hq 7 35 rfl rfl ?_
        refine ev_ld hq rfl rfl rfl (j := 96 + 2 * b) (by show (nI 96 + nI 2 * nI b : Int32) = _; rw [pk_mul, nI_add]) (n := 106) (by omega) (by decide) 36 rfl ?_
        refine ev_a hq 5 4 rfl rfl ?_
        have c2 : D' 117 (96 + 2 * b + 1) = a := c2
        simp only [m_bk, if_pos c2] at this
        rw [← e1] at this
        exact this
      · refine ev_a hq 5 4 rfl rfl ?_
        have c2 : ¬ D' 117 (96 + 2 * b + 1) = a := c2
        simp only [m_bk, if_neg c2] at this
        rw [← e1] at this
        exact this
theorem s_M_booksOf (X : ev_X) (d n : Nat) (a : Int32) (hd : 1 ≤ d) (D : mx_D) (E : mx_E) (hn : D 117 6 = nI n) (h8 : n ≤ 5) : ev X d 233 (0, mx_ent 4 [.ref 116, .int a], [], D, E) (fun r D' E' => r = some (.int (m_bk (D 117) a n)) ∧ D' = D ∧ E' = E) := by
  have hq : kq_m 233 = some kq_q233 := rfl
  refine ev_a hq 4 4 rfl rfl ?_
  exact s_M_booksOf_loop X d n a hd D E hn h8 n 0 (by omega) (by omega)
