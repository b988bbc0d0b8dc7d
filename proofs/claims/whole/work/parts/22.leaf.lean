/-! ===== the reference's leaves: who and what there is ===== -/
theorem ev_tt {c c' : Prop} {dc : Decidable c} {dc' : Decidable c'} (h : c ↔ c') : @ite Int32 c dc 1 0 = @ite Int32 c' dc' 1 0 := by
  by_cases hc : c
  · rw [if_pos hc, if_pos (h.mp hc)]
  · rw [if_neg hc, if_neg (fun q => hc (h.mpr q))]
theorem k_in (a : Int32) (n : Nat) (hn : n < 1000) : ((0 : Int64) ≤ a.toInt64 ∧ a.toInt64 ≤ (nI n - 1).toInt64) ↔ (0 ≤ a.toInt ∧ a.toInt < n) := by
  have e : (nI n - 1).toInt = (n : Int) - 1 := pk_sub_toInt (a := n) (b := 1) (by omega) (by omega)
  rw [Int64.le_iff_toInt_le, Int64.le_iff_toInt_le, Int32.toInt_toInt64, Int32.toInt_toInt64, e]
  have z : (0 : Int64).toInt = 0 := by decide
  rw [z]
  omega
theorem s_M_isPerson (X : ev_X) (d : Nat) (hd : 1 ≤ d) (a : Int32) (n : Nat) (D : mx_D) (E : mx_E) (hn : D 117 4 = nI n) (h8 : n ≤ 8) : ev X d 223 (0, mx_ent 2 [.ref 116, .int a], [], D, E) (fun r D' E' => r = some (.int (if 0 ≤ a.toInt ∧ a.toInt < n then 1 else 0)) ∧ D' = D ∧ E' = E) := by
  have hq : kq_m 223 = some kq_q223 := rfl
  obtain ⟨d', rfl⟩ : ∃ d', d = d' + 1 := ⟨d - 1, by omega⟩
  refine ev_a hq 10 12 rfl rfl ?_
  refine ev_d hq rfl rfl rfl rfl rfl rfl (s_M_in X d' _ _ _ D E) 15 rfl (fun r D' E' hr => ?_)
  obtain ⟨rfl, rfl, rfl⟩ := hr
  refine ev_rz hq rfl rfl rfl ev_tf ⟨?_, rfl, rfl⟩
  have : (Int64.ofNat 0 ≤ a.toInt64 ∧ a.toInt64 ≤ (D' 117 4 - 1).toInt64) ↔ (0 ≤ a.toInt ∧ a.toInt < n) := by
    rw [hn]
    exact k_in a n (by omega)
  exact congrArg (fun z => some (Value.int z)) (ev_tt this)
theorem s_M_isHat (X : ev_X) (d : Nat) (hd : 1 ≤ d) (a : Int32) (n : Nat) (D : mx_D) (E : mx_E) (hn : D 117 5 = nI n) (h8 : n ≤ 8) : ev X d 226 (0, mx_ent 2 [.ref 116, .int a], [], D, E) (fun r D' E' => r = some (.int (if 0 ≤ a.toInt ∧ a.toInt < n then 1 else 0)) ∧ D' = D ∧ E' = E) := by
  have hq : kq_m 226 = some kq_q226 := rfl
  obtain ⟨d', rfl⟩ : ∃ d', d = d' + 1 := ⟨d - 1, by omega⟩
  refine ev_a hq 10 12 rfl rfl ?_
  refine ev_d hq rfl rfl rfl rfl rfl rfl (s_M_in X d' _ _ _ D E) 15 rfl (fun r D' E' hr => ?_)
  obtain ⟨rfl, rfl, rfl⟩ := hr
  refine ev_rz hq rfl rfl rfl ev_tf ⟨?_, rfl, rfl⟩
  have : (Int64.ofNat 0 ≤ a.toInt64 ∧ a.toInt64 ≤ (D' 117 5 - 1).toInt64) ↔ (0 ≤ a.toInt ∧ a.toInt < n) := by
    rw [hn]
    exact k_in a n (by omega)
  exact congrArg (fun z => some (Value.int z)) (ev_tt this)
theorem s_M_isBook (X : ev_X) (d : Nat) (hd : 1 ≤ d) (a : Int32) (n : Nat) (D : mx_D) (E : mx_E) (hn : D 117 6 = nI n) (h8 : n ≤ 8) : ev X d 227 (0, mx_ent 2 [.ref 116, .int a], [], D, E) (fun r D' E' => r = some (.int (if 0 ≤ a.toInt ∧ a.toInt < n then 1 else 0)) ∧ D' = D ∧ E' = E) := by
  have hq : kq_m 227 = some kq_q227 := rfl
  obtain ⟨d', rfl⟩ : ∃ d', d = d' + 1 := ⟨d - 1, by omega⟩
  refine ev_a hq 10 13 rfl rfl ?_
  refine ev_d hq rfl rfl rfl rfl rfl rfl (s_M_in X d' _ _ _ D E) 16 rfl (fun r D' E' hr => ?_)
  obtain ⟨rfl, rfl, rfl⟩ := hr
  refine ev_rz hq rfl rfl rfl ev_tf ⟨?_, rfl, rfl⟩
  have : (Int64.ofNat 0 ≤ a.toInt64 ∧ a.toInt64 ≤ (D' 117 6 - 1).toInt64) ↔ (0 ≤ a.toInt ∧ a.toInt < n) := by
    rw [hn]
    exact k_in a n (by omega)
  exact congrArg (fun z => some (Value.int z)) (ev_tt this)
theorem s_M_isChurch (X : ev_X) (d n : Nat) (D : mx_D) (E : mx_E) (hn : D 117 0 = nI n) (h8 : n ≤ 8) : ev X d 230 (0, mx_ent 1 [.ref 116], [], D, E) (fun r D' E' => r = some (.int (if 0 < n then 1 else 0)) ∧ D' = D ∧ E' = E) := by
  have hq : kq_m 230 = some kq_q230 := rfl
  refine ev_a hq 4 6 rfl rfl ?_
  refine ev_b hq rfl rfl 13 9 rfl rfl (fun c1 => ?_) (fun c1 => ?_)
  · refine ev_a hq 1 14 rfl rfl ?_
    have c1 : D 117 0 ≤ 0 := c1
    rw [hn] at c1
    have : ¬ 0 < n := fun q => nI_nle q (by omega) c1
    refine ev_ret hq rfl rfl ⟨?_, rfl, rfl⟩
    rw [if_neg this]
    rfl
  · refine ev_a hq 2 14 rfl rfl ?_
    have c1 : ¬ D 117 0 ≤ 0 := c1
    rw [hn] at c1
    have : 0 < n := by
      rcases Nat.eq_zero_or_pos n with rfl | h
      · exact absurd (by decide) c1
      · exact h
    refine ev_ret hq rfl rfl ⟨?_, rfl, rfl⟩
    rw [if_pos this]
    rfl
