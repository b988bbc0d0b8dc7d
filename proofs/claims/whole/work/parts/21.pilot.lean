theorem lg_cmp_lt0 (x y : Int64) : lg_cmp x y < 0 ↔ x < y := by
  unfold lg_cmp
  simp only [gt_iff_lt, Int64.lt_iff_toInt_lt, ← Int64.toInt_inj]
  repeat' split
  all_goals first | (constructor <;> intro h <;> first | omega | (revert h; decide)) 
theorem lg_cmp_gt0 (x y : Int64) : 0 < lg_cmp x y ↔ y < x := by
  unfold lg_cmp
  simp only [gt_iff_lt, Int64.lt_iff_toInt_lt, ← Int64.toInt_inj]
  repeat' split
  all_goals first | (constructor <;> intro h <;> first | omega | (revert h; decide)) 
theorem s_M_in (X : ev_X) (d : Nat) (v lo hi : Int64) (D : mx_D) (E : mx_E) : ev X d 183 (0, mx_ent 6 [.long v, .long lo, .long hi], [], D, E) (fun r D' E' => r = some (.int (if lo ≤ v ∧ v ≤ hi then 1 else 0)) ∧ D' = D ∧ E' = E) := by
  have hq : kq_m 183 = some kq_q183 := rfl
  refine ev_a hq 3 3 rfl rfl ?_
  refine ev_b hq rfl rfl 17 6 rfl rfl (fun c => ?_) (fun c => ?_)
  · refine ev_a hq 1 18 rfl rfl ?_
    refine ev_ret hq rfl rfl ⟨?_, rfl, rfl⟩
    sorry
  · refine ev_a hq 3 10 rfl rfl ?_
    refine ev_b hq rfl rfl 17 13 rfl rfl (fun c2 => ?_) (fun c2 => ?_)
    · refine ev_a hq 1 18 rfl rfl ?_
      refine ev_ret hq rfl rfl ⟨?_, rfl, rfl⟩
      sorry
    · refine ev_a hq 2 18 rfl rfl ?_
      refine ev_ret hq rfl rfl ⟨?_, rfl, rfl⟩
      sorry
theorem s_M_of (X : ev_X) (d : Nat) (a w : Int32) (D : mx_D) (E : mx_E) (h : ¬ (40 + 6 * a + w < 0 ∨ 106 ≤ (40 + 6 * a + w).toNatClampNeg)) : ev X d 213 (0, mx_ent 3 [.ref 116, .int a, .int w], [], D, E) (fun r D' E' => r = some (.int (D 117 (40 + 6 * a + w).toNatClampNeg)) ∧ D' = D ∧ E' = E) := by
  have hq : kq_m 213 = some kq_q213 := rfl
  refine ev_a hq 9 13 rfl rfl ?_
  refine ev_c hq rfl rfl 14 rfl h ?_
  exact ev_ret hq rfl rfl ⟨rfl, rfl, rfl⟩
