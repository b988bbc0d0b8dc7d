/-! ===== the reference's leaves: who and what there is ===== -/
theorem ev_tt {c c' : Prop} {dc : Decidable c} {dc' : Decidable c'} (h : c ↔ c') : @ite Int32 c dc 1 0 = @ite Int32 c' dc' 1 0 := by
  by_cases hc : c
  · rw [if_pos hc, if_pos (h.mp hc)]
  · rw [if_neg hc, if_neg (fun q => hc (h.mpr q))]
theorem k_in (a : Int32) (n : Nat) (hn : n < 1000) : ((0 : Int64) ≤ a.toInt64 ∧ a.toInt64 ≤ (nI n - 1).toInt64) ↔ (0 ≤ a.toInt ∧ a.toInt < n) := by
  have e : (nI n - 1).toInt = (n : Int) - 1 := pk_sub_toInt (a := n) (b := 1) (by omega) (by omega)
  rw [Int64.le_iff_toInt_le, Int64.le_iff_toInt_le, Int32.toInt_toInt64, Int32.toInt_toInt64, e]
  have z : (0 : Int64).toInt = 0 := by decide
  rw [z]
  omega
theorem s_M_isPerson (X : ev_X) (d : Nat) (hd : 1 ≤ d) (a : Int32) (n : Nat) (D : mx_D) (E : mx_E) (hn : D 117 4 = nI n) (h8 : n ≤ 8) : ev X d 223 (0, mx_ent 2 [.ref 116, .int a], [], D, E) (fun r D' E' => r = some (.int (if 0 ≤ a.toInt ∧ a.toInt < n then 1 else 0)) ∧ D' = D ∧ E' = E) := by
  have hq : kq_m 223 = some kq_q223 := rfl
  obtain ⟨d', rfl⟩ : ∃ d', d = d' + 1 := ⟨d - 1, by omega⟩
  refine ev_a hq 10 12 rfl rfl ?_
  refine ev_d hq rfl rfl rfl rfl rfl rfl (s_M_in X d' _ _ _ D E) 15 rfl (fun r D' E' hr => ?_)
  obtain ⟨rfl, rfl, rfl⟩ := hr
  refine ev_rz hq rfl rfl rfl ev_tf ⟨?_, rfl, rfl⟩
  have : (Int64.ofNat 0 ≤ a.toInt64 ∧ a.toInt64 ≤ (D' 117 4 - 1).toInt64) ↔ (0 ≤ a.toInt ∧ a.toInt < n) := by
    rw [hn]
    exact k_in a n (by omega)
  exact congrArg (fun z => some (Value.int z)) (ev_tt this)
theorem s_M_isHat (X : ev_X) (d : Nat) (hd : 1 ≤ d) (a : Int32) (n : Nat) (D : mx_D) (E : mx_E) (hn : D 117 5 = nI n) (h8 : n ≤ 8) : ev X d 226 (0, mx_ent 2 [.ref 116, .int a], [], D, E) (fun r D' E' => r = some (.int (if 0 ≤ a.toInt ∧ a.toInt < n then 1 else 0)) ∧ D' = D ∧ E' = E) := by
  have hq : kq_m 226 = some kq_q226 := rfl
  obtain ⟨d', rfl⟩ : ∃ d', d = d' + 1 := ⟨d - 1, by omega⟩
  refine ev_a hq 10 12 rfl rfl ?_
  refine ev_d hq rfl rfl rfl rfl rfl rfl (s_M_in X d' _ _ _ D E) 15 rfl (fun r D' E' hr => ?_)
  obtain ⟨rfl, rfl, rfl⟩ := hr
  refine ev_rz hq rfl rfl rfl ev_tf ⟨?_, rfl, rfl⟩
  have : (Int64.ofNat 0 ≤ a.toInt64 ∧ a.toInt64 ≤ (D' 117 5 - 1).toInt64) ↔ (0 ≤ a.toInt ∧ a.toInt < n) := by
    rw [hn]
    exact k_in a n (by omega)
  exact congrArg (fun z => some (Value.int z)) (ev_tt this)
theorem s_M_isBook (X : ev_X) (d : Nat) (hd : 1 ≤ d) (a : Int32) (n : Nat) (D : mx_D) (E : mx_E) (hn : D 117 6 = nI n) (h8 : n ≤ 8) : ev X d 227 (0, mx_ent 2 [.ref 116, .int a], [], D, E) (fun r D' E' => r = some (.int (if 0 ≤ a.toInt ∧ a.toInt < n then 1 else 0)) ∧ D' = D ∧ E' = E) := by
  have hq : kq_m 227 = some kq_q227 := rfl
  obtain ⟨d', rfl⟩ : ∃ d', d = d' + 1 := ⟨d - 1, by omega⟩
  refine ev_a hq 10 13 rfl rfl ?_
  refine ev_d hq rfl rfl rfl rfl rfl rfl (s_M_in X d' _ _ _ D E) 16 rfl (fun r D' E' hr => ?_)
  obtain ⟨rfl, rfl, rfl⟩ := hr
  refine ev_rz hq rfl rfl rfl ev_tf ⟨?_, rfl, rfl⟩
  have : (Int64.ofNat 0 ≤ a.toInt64 ∧ a.toInt64 ≤ (D' 117 6 - 1).toInt64) ↔ (0 ≤ a.toInt ∧ a.toInt < n) := by
    rw [hn]
    exact k_in a n (by omega)
  exact congrArg (fun z => some (Value.int z)) (ev_tt this)
theorem s_M_isChurch (X : ev_X) (d n : Nat) (D : mx_D) (E : mx_E) (hn : D 117 0 = nI n) (h8 : n ≤ 8) : ev X d 230 (0, mx_ent 1 [.ref 116], [], D, E) (fun r D' E' => r = some (.int (if 0 < n then 1 else 0)) ∧ D' = D ∧ E' = E) := by
  have hq : kq_m 230 = some kq_q230 := rfl
  refine ev_a hq 4 6 rfl rfl ?_
  refine ev_b hq rfl rfl 13 9 rfl rfl (fun c1 => ?_) (fun c1 => ?_)
  · refine ev_a hq 1 14 rfl rfl ?_
    have c1 : D 117 0 ≤ 0 := c1
    rw [hn] at c1
    have : ¬ 0 < n := fun q => nI_nle q (by omega) c1
    refine ev_ret hq rfl rfl ⟨?_, rfl, rfl⟩
    rw [if_neg this]
    rfl
  · refine ev_a hq 2 14 rfl rfl ?_
    have c1 : ¬ D 117 0 ≤ 0 := c1
    rw [hn] at c1
    have : 0 < n := by
      rcases Nat.eq_zero_or_pos n with rfl | h
      · exact absurd (by decide) c1
      · exact h
    refine ev_ret hq rfl rfl ⟨?_, rfl, rfl⟩
    rw [if_pos this]
    rfl
/-- an int row read at a place that is a natural's -/
theorem ev_ld {X : ev_X} {d y : Nat} {Φ : ev_P} {q : kq_Ty} (hq : kq_m y = some q) {pc : Nat} (hi : mx_look q.2.2.2.2.2 pc = some .iaload) {a n : Nat} (hx : kq_ext X.1 X.2 a = none) (hla : kq_lay a = some (.inl (0, n))) {e : Int32} {j : Nat} (he : e = nI j) (hj : j < n) (hn : n < 2 ^ 31) (t : Nat) (ht : pc + 1 = t) {L : mx_L} {st : List Value} {D : mx_D} {E : mx_E} (k : ev X d y (t, L, .int (D a j) :: st, D, E) Φ) : ev X d y (pc, L, .int e :: .ref a :: st, D, E) Φ := by
  subst he
  subst ht
  refine ev_ins hq hi (S' := (pc + 1, L, .int (D a j) :: st, D, E)) ?_ k
  simp only [ev_i, mx_ins, hx, hla]
  rw [if_neg (nI_in hj hn), nI_clamp (by omega)]
/-- an int row written at such a place -/
theorem ev_sd {X : ev_X} {d y : Nat} {Φ : ev_P} {q : kq_Ty} (hq : kq_m y = some q) {pc : Nat} (hi : mx_look q.2.2.2.2.2 pc = some .iastore) {a n : Nat} (hla : kq_lay a = some (.inl (0, n))) {e x : Int32} {j : Nat} (he : e = nI j) (hj : j < n) (hn : n < 2 ^ 31) (t : Nat) (ht : pc + 1 = t) {L : mx_L} {st : List Value} {D : mx_D} {E : mx_E} (k : ev X d y (t, L, st, va_up D a (upd (D a) j x), E) Φ) : ev X d y (pc, L, .int x :: .int e :: .ref a :: st, D, E) Φ := by
  subst he
  subst ht
  refine ev_ins hq hi (S' := (pc + 1, L, st, va_up D a (upd (D a) j x), E)) ?_ k
  simp only [ev_i, mx_ins, hla]
  rw [if_neg (nI_in hj hn), nI_clamp (by omega)]
theorem s_M_ofPew (X : ev_X) (d p k : Nat) (hp : p < 4) (hk : k < 3) (D : mx_D) (E : mx_E) : ev X d 215 (0, mx_ent 3 [.ref 116, .int (nI p), .int (nI k)], [], D, E) (fun r D' E' => r = some (.int (D 117 (8 + 3 * p + k))) ∧ D' = D ∧ E' = E) := by
  have hq : kq_m 215 = some kq_q215 := rfl
  refine ev_a hq 9 12 rfl rfl ?_
  refine ev_ld hq rfl rfl rfl (j := 8 + 3 * p + k) (by show (nI 8 + nI 3 * nI p + nI k : Int32) = _; rw [pk_mul, nI_add, nI_add]) (n := 106) (by omega) (by decide) 13 rfl ?_
  exact ev_ret hq rfl rfl ⟨rfl, rfl, rfl⟩
theorem s_M_trenchAt (X : ev_X) (d p i : Nat) (D : mx_D) (E : mx_E) : ev X d 219 (0, mx_ent 3 [.ref 116, .int (nI p), .int (nI i)], [], D, E) (fun r D' E' => r = some (.int (nI (20 + 5 * p + i))) ∧ D' = D ∧ E' = E) := by
  have hq : kq_m 219 = some kq_q219 := rfl
  refine ev_a hq 7 8 rfl rfl ?_
  refine ev_ret hq rfl rfl ⟨?_, rfl, rfl⟩
  show some (Value.int (nI 20 + nI 5 * nI p + nI i)) = _
  rw [pk_mul, nI_add, nI_add]
theorem s_M_standsOn (X : ev_X) (d b : Nat) (hb : b < 5) (D : mx_D) (E : mx_E) : ev X d 224 (0, mx_ent 2 [.ref 116, .int (nI b)], [], D, E) (fun r D' E' => r = some (.int (D 117 (96 + 2 * b + 1))) ∧ D' = D ∧ E' = E) := by
  have hq : kq_m 224 = some kq_q224 := rfl
  refine ev_a hq 9 12 rfl rfl ?_
  refine ev_ld hq rfl rfl rfl (j := 96 + 2 * b + 1) (by show (nI 96 + nI 2 * nI b + nI 1 : Int32) = _; rw [pk_mul, nI_add, nI_add]) (n := 106) (by omega) (by decide) 13 rfl ?_
  exact ev_ret hq rfl rfl ⟨rfl, rfl, rfl⟩
theorem s_M_floorOf (X : ev_X) (d p i : Nat) (hd : 1 ≤ d) (hp : p < 4) (hi : i < 5) (D : mx_D) (E : mx_E) : ev X d 218 (0, mx_ent 3 [.ref 116, .int (nI p), .int (nI i)], [], D, E) (fun r D' E' => r = some (.int (D 117 (8 + 3 * p) - D 117 (8 + 3 * p + 2) - D 117 (20 + 5 * p + i))) ∧ D' = D ∧ E' = E) := by
  have hq : kq_m 218 = some kq_q218 := rfl
  obtain ⟨d', rfl⟩ : ∃ d', d = d' + 1 := ⟨d - 1, by omega⟩
  refine ev_a hq 3 3 rfl rfl ?_
  refine ev_d hq rfl rfl rfl rfl rfl rfl (s_M_ofPew X d' p 0 hp (by decide) D E) 6 rfl (fun r D' E' hr => ?_)
  obtain ⟨rfl, rfl, rfl⟩ := hr
  refine ev_a hq 3 9 rfl rfl ?_
  refine ev_d hq rfl rfl rfl rfl rfl rfl (s_M_ofPew X d' p 2 hp (by decide) D' E') 12 rfl (fun r D E hr => ?_)
  obtain ⟨rfl, rfl, rfl⟩ := hr
  refine ev_a hq 6 20 rfl rfl ?_
  refine ev_d hq rfl rfl rfl rfl rfl rfl (s_M_trenchAt X d' p i D E) 23 rfl (fun r D' E' hr => ?_)
  obtain ⟨rfl, rfl, rfl⟩ := hr
  refine ev_ld hq rfl rfl rfl (j := 20 + 5 * p + i) rfl (n := 106) (by omega) (by decide) 24 rfl ?_
  refine ev_a hq 1 25 rfl rfl ?_
  exact ev_ret hq rfl rfl ⟨rfl, rfl, rfl⟩
