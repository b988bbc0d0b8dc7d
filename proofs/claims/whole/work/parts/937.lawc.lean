/-! ===== the law, call by call: each turn leaves both stores tied ===== -/
section LC
variable {F : Nat} {D : mx_D} {E : mx_E}
theorem tn_288 (hF : 10000000000 ≤ F) (X : ev_X) (hX : X.1 ≤ 3072) (k18 : Int32 → mx_D → mx_E → Option (Int32 × mx_D × mx_E)) {i : Nat} (hi : i + 6 ≤ X.1) (h : RL D E) : ∃ D2 E2, b_law_288 F X k18 (nI i) D E = k18 (nI (i + 6)) D2 E2 ∧ RL D2 E2 := by
  obtain ⟨r, D1, D2, e1, e2, e3⟩ := op_feed (F := F) (by omega) h (X.2 (i + 1)) (X.2 (i + 2)) (X.2 (i + 3)) (X.2 (i + 4)) (X.2 (i + 5))
  refine ⟨D2, E, ?_, e3⟩
  unfold b_law_288 b_law_2168
  simp (disch := omega) only [nI_add, rk_in, nI_clamp]
  rw [e1, ob_some]
  dsimp only
  rw [e2, ob_some]
  dsimp only
  rw [if_pos rfl]
theorem tn_351 (hF : 10000000000 ≤ F) (X : ev_X) (hX : X.1 ≤ 3072) (k18 : Int32 → mx_D → mx_E → Option (Int32 × mx_D × mx_E)) {i : Nat} (hi : i + 6 ≤ X.1) (h : RL D E) : ∃ D2 E2, b_law_351 F X k18 (nI i) D E = k18 (nI (i + 6)) D2 E2 ∧ RL D2 E2 := by
  obtain ⟨r, D1, D2, e1, e2, e3⟩ := op_end h (X.2 (i + 1))
  refine ⟨D2, E, ?_, e3⟩
  unfold b_law_351 b_law_2168
  simp (disch := omega) only [nI_add, rk_in, nI_clamp]
  rw [e1]
  dsimp only
  rw [e2]
  dsimp only
  rw [if_pos rfl]
theorem tn_374 (hF : 10000000000 ≤ F) (X : ev_X) (hX : X.1 ≤ 3072) (k18 : Int32 → mx_D → mx_E → Option (Int32 × mx_D × mx_E)) {i : Nat} (hi : i + 6 ≤ X.1) (h : RL D E) : ∃ D2 E2, b_law_374 F X k18 (nI i) D E = k18 (nI (i + 6)) D2 E2 ∧ RL D2 E2 := by
  obtain ⟨r, D1, D2, e1, e2, e3⟩ := op_church (F := F) (by omega) h 
  refine ⟨D2, E, ?_, e3⟩
  unfold b_law_374 b_law_2168
  simp (disch := omega) only [nI_add]
  rw [e1, ob_some]
  dsimp only
  rw [e2, ob_some]
  dsimp only
  rw [if_pos rfl]
theorem tn_387 (hF : 10000000000 ≤ F) (X : ev_X) (hX : X.1 ≤ 3072) (k18 : Int32 → mx_D → mx_E → Option (Int32 × mx_D × mx_E)) {i : Nat} (hi : i + 6 ≤ X.1) (h : RL D E) : ∃ D2 E2, b_law_387 F X k18 (nI i) D E = k18 (nI (i + 6)) D2 E2 ∧ RL D2 E2 := by
  refine ⟨D, E, ?_, h⟩
  unfold b_law_387 b_law_2168
  simp (disch := omega) only [nI_add, rk_in, nI_clamp]
  rw [q_fault h, if_pos rfl]
theorem tn_410 (hF : 10000000000 ≤ F) (X : ev_X) (hX : X.1 ≤ 3072) (k18 : Int32 → mx_D → mx_E → Option (Int32 × mx_D × mx_E)) {i : Nat} (hi : i + 6 ≤ X.1) (h : RL D E) : ∃ D2 E2, b_law_410 F X k18 (nI i) D E = k18 (nI (i + 6)) D2 E2 ∧ RL D2 E2 := by
  obtain ⟨r, e1, e2⟩ := q_pew (F := F) (by omega) h.2.2.1 h.1 (X.2 (i + 1)) (X.2 (i + 2))
  refine ⟨D, E, ?_, h⟩
  unfold b_law_410 b_law_2168
  simp (disch := omega) only [nI_add, rk_in, nI_clamp]
  rw [e1, ob_some, e2, ob_some, if_pos rfl]
theorem tn_443 (hF : 10000000000 ≤ F) (X : ev_X) (hX : X.1 ≤ 3072) (k18 : Int32 → mx_D → mx_E → Option (Int32 × mx_D × mx_E)) {i : Nat} (hi : i + 6 ≤ X.1) (h : RL D E) : ∃ D2 E2, b_law_443 F X k18 (nI i) D E = k18 (nI (i + 6)) D2 E2 ∧ RL D2 E2 := by
  obtain ⟨r, e1, e2⟩ := q_floor h.2.2.1 h.1 (X.2 (i + 1)) (X.2 (i + 2))
  refine ⟨D, E, ?_, h⟩
  unfold b_law_443 b_law_2168
  simp (disch := omega) only [nI_add, rk_in, nI_clamp]
  rw [e1, ob_some, e2, ob_some, if_pos rfl]
theorem tn_476 (hF : 10000000000 ≤ F) (X : ev_X) (hX : X.1 ≤ 3072) (k18 : Int32 → mx_D → mx_E → Option (Int32 × mx_D × mx_E)) {i : Nat} (hi : i + 6 ≤ X.1) (h : RL D E) : ∃ D2 E2, b_law_476 F X k18 (nI i) D E = k18 (nI (i + 6)) D2 E2 ∧ RL D2 E2 := by
  obtain ⟨r, e1, e2⟩ := q_who (F := F) (by omega) h.2.2.1 h.1 (X.2 (i + 1)) (X.2 (i + 2))
  refine ⟨D, E, ?_, h⟩
  unfold b_law_476 b_law_2168
  simp (disch := omega) only [nI_add, rk_in, nI_clamp]
  rw [e1, ob_some, e2, ob_some, if_pos rfl]
theorem tn_509 (hF : 10000000000 ≤ F) (X : ev_X) (hX : X.1 ≤ 3072) (k18 : Int32 → mx_D → mx_E → Option (Int32 × mx_D × mx_E)) {i : Nat} (hi : i + 6 ≤ X.1) (h : RL D E) : ∃ D2 E2, b_law_509 F X k18 (nI i) D E = k18 (nI (i + 6)) D2 E2 ∧ RL D2 E2 := by
  obtain ⟨r, e1, e2⟩ := q_person (F := F) (by omega) h.2.2.1 h.1 (X.2 (i + 1)) (X.2 (i + 2))
  refine ⟨D, E, ?_, h⟩
  unfold b_law_509 b_law_2168
  simp (disch := omega) only [nI_add, rk_in, nI_clamp]
  rw [e1, ob_some, e2, ob_some, if_pos rfl]
theorem tn_542 (hF : 10000000000 ≤ F) (X : ev_X) (hX : X.1 ≤ 3072) (k18 : Int32 → mx_D → mx_E → Option (Int32 × mx_D × mx_E)) {i : Nat} (hi : i + 6 ≤ X.1) (h : RL D E) : ∃ D2 E2, b_law_542 F X k18 (nI i) D E = k18 (nI (i + 6)) D2 E2 ∧ RL D2 E2 := by
  obtain ⟨r, e1, e2⟩ := q_thing h.2.2.1 h.1 (X.2 (i + 1)) (X.2 (i + 2))
  refine ⟨D, E, ?_, h⟩
  unfold b_law_542 b_law_2168
  simp (disch := omega) only [nI_add, rk_in, nI_clamp]
  rw [e1, ob_some, e2, ob_some, if_pos rfl]
theorem tn_575 (hF : 10000000000 ≤ F) (X : ev_X) (hX : X.1 ≤ 3072) (k18 : Int32 → mx_D → mx_E → Option (Int32 × mx_D × mx_E)) {i : Nat} (hi : i + 6 ≤ X.1) (h : RL D E) : ∃ D2 E2, b_law_575 F X k18 (nI i) D E = k18 (nI (i + 6)) D2 E2 ∧ RL D2 E2 := by
  obtain ⟨r, e1, e2⟩ := q_high (F := F) (by omega) h.2.2.1 h.1 (X.2 (i + 1)) (X.2 (i + 2))
  refine ⟨D, E, ?_, h⟩
  unfold b_law_575 b_law_2168
  simp (disch := omega) only [nI_add, rk_in, nI_clamp]
  rw [e1, ob_some, e2, ob_some, if_pos rfl]
theorem tn_608 (hF : 10000000000 ≤ F) (X : ev_X) (hX : X.1 ≤ 3072) (k18 : Int32 → mx_D → mx_E → Option (Int32 × mx_D × mx_E)) {i : Nat} (hi : i + 6 ≤ X.1) (h : RL D E) : ∃ D2 E2, b_law_608 F X k18 (nI i) D E = k18 (nI (i + 6)) D2 E2 ∧ RL D2 E2 := by
  obtain ⟨D1, a1, a2⟩ := x_spread (F := F) (w := D 117) (by omega) h.2.2.1 h.1 (X.2 (i + 1)) (X.2 (i + 2))
  have e7 := a2 117 (by omega)
  obtain ⟨D2, b1, b2⟩ := m_spread (F := F) (D := D1) (by omega) (by rw [e7]; exact h.1) (X.2 (i + 1)) (X.2 (i + 2))
  rw [e7] at b1
  refine ⟨D2, E, ?_, RL_q h (FR_XM a2 b2) (fun _ _ _ => rfl)⟩
  unfold b_law_608 b_law_2168
  simp (disch := omega) only [nI_add, rk_in, nI_clamp]
  rw [a1, ob_some]
  dsimp only
  rw [b1, ob_some]
  dsimp only
  rw [if_pos rfl]
theorem tn_641 (hF : 10000000000 ≤ F) (X : ev_X) (hX : X.1 ≤ 3072) (k18 : Int32 → mx_D → mx_E → Option (Int32 × mx_D × mx_E)) {i : Nat} (hi : i + 6 ≤ X.1) (h : RL D E) : ∃ D2 E2, b_law_641 F X k18 (nI i) D E = k18 (nI (i + 6)) D2 E2 ∧ RL D2 E2 := by
  obtain ⟨D1, a1, a2⟩ := x_level (F := F) (w := D 117) (by omega) h.2.2.1 h.1 (X.2 (i + 1))
  have e7 := a2 117 (by omega)
  obtain ⟨D2, b1, b2⟩ := m_level (F := F) (D := D1) (by omega) (by rw [e7]; exact h.1) (X.2 (i + 1))
  rw [e7] at b1
  refine ⟨D2, E, ?_, RL_q h (FR_XM a2 b2) (fun _ _ _ => rfl)⟩
  unfold b_law_641 b_law_2168
  simp (disch := omega) only [nI_add, rk_in, nI_clamp]
  rw [a1, ob_some]
  dsimp only
  rw [b1, ob_some]
  dsimp only
  rw [if_pos rfl]
theorem tn_664 (hF : 10000000000 ≤ F) (X : ev_X) (hX : X.1 ≤ 3072) (k18 : Int32 → mx_D → mx_E → Option (Int32 × mx_D × mx_E)) {i : Nat} (hi : i + 6 ≤ X.1) (h : RL D E) : ∃ D2 E2, b_law_664 F X k18 (nI i) D E = k18 (nI (i + 6)) D2 E2 ∧ RL D2 E2 := by
  obtain ⟨D1, a1, a2⟩ := x_first (F := F) (w := D 117) (by omega) h.2.2.1 h.1 (X.2 (i + 1))
  have e7 := a2 117 (by omega)
  obtain ⟨D2, b1, b2⟩ := m_first (F := F) (D := D1) (by omega) (by rw [e7]; exact h.1) (X.2 (i + 1))
  rw [e7] at b1
  refine ⟨D2, E, ?_, RL_q h (FR_XM a2 b2) (fun _ _ _ => rfl)⟩
  unfold b_law_664 b_law_2168
  simp (disch := omega) only [nI_add, rk_in, nI_clamp]
  rw [a1, ob_some]
  dsimp only
  rw [b1, ob_some]
  dsimp only
  rw [if_pos rfl]
theorem tn_687 (hF : 10000000000 ≤ F) (X : ev_X) (hX : X.1 ≤ 3072) (k18 : Int32 → mx_D → mx_E → Option (Int32 × mx_D × mx_E)) {i : Nat} (hi : i + 6 ≤ X.1) (h : RL D E) : ∃ D2 E2, b_law_687 F X k18 (nI i) D E = k18 (nI (i + 6)) D2 E2 ∧ RL D2 E2 := by
  obtain ⟨D1, a1, a2⟩ := x_out (F := F) (w := D 117) (by omega) h.2.2.1 h.1 (X.2 (i + 1)) (X.2 (i + 2))
  have e7 := a2 117 (by omega)
  obtain ⟨D2, b1, b2⟩ := m_out (F := F) (D := D1) (by omega) (by rw [e7]; exact h.1) (X.2 (i + 1)) (X.2 (i + 2))
  rw [e7] at b1
  refine ⟨D2, E, ?_, RL_q h (FR_XM a2 b2) (fun _ _ _ => rfl)⟩
  unfold b_law_687 b_law_2168
  simp (disch := omega) only [nI_add, rk_in, nI_clamp]
  rw [a1, ob_some]
  dsimp only
  rw [b1, ob_some]
  dsimp only
  rw [if_pos rfl]
theorem tn_720 (hF : 10000000000 ≤ F) (X : ev_X) (hX : X.1 ≤ 3072) (k18 : Int32 → mx_D → mx_E → Option (Int32 × mx_D × mx_E)) {i : Nat} (hi : i + 6 ≤ X.1) (h : RL D E) : ∃ D2 E2, b_law_720 F X k18 (nI i) D E = k18 (nI (i + 6)) D2 E2 ∧ RL D2 E2 := by
  obtain ⟨D1, a1, a2⟩ := x_above (F := F) (w := D 117) (by omega) h.2.2.1 h.1 (X.2 (i + 1)) (X.2 (i + 2))
  have e7 := a2 117 (by omega)
  obtain ⟨D2, b1, b2⟩ := m_above (F := F) (D := D1) (by omega) (by rw [e7]; exact h.1) (X.2 (i + 1)) (X.2 (i + 2))
  rw [e7] at b1
  refine ⟨D2, E, ?_, RL_q h (FR_XM a2 b2) (fun _ _ _ => rfl)⟩
  unfold b_law_720 b_law_2168
  simp (disch := omega) only [nI_add, rk_in, nI_clamp]
  rw [a1, ob_some]
  dsimp only
  rw [b1, ob_some]
  dsimp only
  rw [if_pos rfl]
theorem tn_753 (hF : 10000000000 ≤ F) (X : ev_X) (hX : X.1 ≤ 3072) (k18 : Int32 → mx_D → mx_E → Option (Int32 × mx_D × mx_E)) {i : Nat} (hi : i + 6 ≤ X.1) (h : RL D E) : ∃ D2 E2, b_law_753 F X k18 (nI i) D E = k18 (nI (i + 6)) D2 E2 ∧ RL D2 E2 := by
  obtain ⟨r, D1, D2, e1, e2, e3⟩ := op_saws (F := F) (by omega) h (X.2 (i + 1))
  refine ⟨D2, E, ?_, e3⟩
  unfold b_law_753 b_law_2168
  simp (disch := omega) only [nI_add, rk_in, nI_clamp]
  rw [e1, ob_some]
  dsimp only
  rw [e2, ob_some]
  dsimp only
  rw [if_pos rfl]
theorem tn_776 (hF : 10000000000 ≤ F) (X : ev_X) (hX : X.1 ≤ 3072) (k18 : Int32 → mx_D → mx_E → Option (Int32 × mx_D × mx_E)) {i : Nat} (hi : i + 6 ≤ X.1) (h : RL D E) : ∃ D2 E2, b_law_776 F X k18 (nI i) D E = k18 (nI (i + 6)) D2 E2 ∧ RL D2 E2 := by
  obtain ⟨r, D1, D2, e1, e2, e3⟩ := op_saw (F := F) (by omega) h (X.2 (i + 1)) (X.2 (i + 2))
  refine ⟨D2, E, ?_, e3⟩
  unfold b_law_776 b_law_2168
  simp (disch := omega) only [nI_add, rk_in, nI_clamp]
  rw [e1, ob_some]
  dsimp only
  rw [e2, ob_some]
  dsimp only
  rw [if_pos rfl]
theorem tn_809 (hF : 10000000000 ≤ F) (X : ev_X) (hX : X.1 ≤ 3072) (k18 : Int32 → mx_D → mx_E → Option (Int32 × mx_D × mx_E)) {i : Nat} (hi : i + 6 ≤ X.1) (h : RL D E) : ∃ D2 E2, b_law_809 F X k18 (nI i) D E = k18 (nI (i + 6)) D2 E2 ∧ RL D2 E2 := by
  obtain ⟨r, D1, D2, e1, e2, e3⟩ := op_ways (F := F) (by omega) h (X.2 (i + 1))
  refine ⟨D2, E, ?_, e3⟩
  unfold b_law_809 b_law_2168
  simp (disch := omega) only [nI_add, rk_in, nI_clamp]
  rw [e1, ob_some]
  dsimp only
  rw [e2, ob_some]
  dsimp only
  rw [if_pos rfl]
theorem tn_832 (hF : 10000000000 ≤ F) (X : ev_X) (hX : X.1 ≤ 3072) (k18 : Int32 → mx_D → mx_E → Option (Int32 × mx_D × mx_E)) {i : Nat} (hi : i + 6 ≤ X.1) (h : RL D E) : ∃ D2 E2, b_law_832 F X k18 (nI i) D E = k18 (nI (i + 6)) D2 E2 ∧ RL D2 E2 := by
  obtain ⟨r, D1, D2, e1, e2, e3⟩ := op_ever (F := F) (by omega) h (X.2 (i + 1))
  refine ⟨D2, E, ?_, e3⟩
  unfold b_law_832 b_law_2168
  simp (disch := omega) only [nI_add, rk_in, nI_clamp]
  rw [e1, ob_some]
  dsimp only
  rw [e2, ob_some]
  dsimp only
  rw [if_pos rfl]
theorem tn_855 (hF : 10000000000 ≤ F) (X : ev_X) (hX : X.1 ≤ 3072) (k18 : Int32 → mx_D → mx_E → Option (Int32 × mx_D × mx_E)) {i : Nat} (hi : i + 6 ≤ X.1) (h : RL D E) : ∃ D2 E2, b_law_855 F X k18 (nI i) D E = k18 (nI (i + 6)) D2 E2 ∧ RL D2 E2 := by
  obtain ⟨r, D1, D2, e1, e2, e3⟩ := op_sawn (F := F) (by omega) h (X.2 (i + 1)) (X.2 (i + 2))
  refine ⟨D2, E, ?_, e3⟩
  unfold b_law_855 b_law_2168
  simp (disch := omega) only [nI_add, rk_in, nI_clamp]
  rw [e1, ob_some]
  dsimp only
  rw [e2, ob_some]
  dsimp only
  rw [if_pos rfl]
theorem tn_888 (hF : 10000000000 ≤ F) (X : ev_X) (hX : X.1 ≤ 3072) (k18 : Int32 → mx_D → mx_E → Option (Int32 × mx_D × mx_E)) {i : Nat} (hi : i + 6 ≤ X.1) (h : RL D E) : ∃ D2 E2, b_law_888 F X k18 (nI i) D E = k18 (nI (i + 6)) D2 E2 ∧ RL D2 E2 := by
  obtain ⟨r, D1, D2, e1, e2, e3⟩ := op_lasts (F := F) (by omega) h 
  refine ⟨D2, E, ?_, e3⟩
  unfold b_law_888 b_law_2168
  simp (disch := omega) only [nI_add]
  rw [e1, ob_some]
  dsimp only
  rw [e2, ob_some]
  dsimp only
  rw [if_pos rfl]
theorem tn_901 (hF : 10000000000 ≤ F) (X : ev_X) (hX : X.1 ≤ 3072) (k18 : Int32 → mx_D → mx_E → Option (Int32 × mx_D × mx_E)) {i : Nat} (hi : i + 6 ≤ X.1) (h : RL D E) : ∃ D2 E2, b_law_901 F X k18 (nI i) D E = k18 (nI (i + 6)) D2 E2 ∧ RL D2 E2 := by
  obtain ⟨r, D1, D2, e1, e2, e3⟩ := op_clash (F := F) (by omega) h (X.2 (i + 1))
  refine ⟨D2, E, ?_, e3⟩
  unfold b_law_901 b_law_2168
  simp (disch := omega) only [nI_add, rk_in, nI_clamp]
  rw [e1, ob_some]
  dsimp only
  rw [e2, ob_some]
  dsimp only
  rw [if_pos rfl]
theorem tn_924 (hF : 10000000000 ≤ F) (X : ev_X) (hX : X.1 ≤ 3072) (k18 : Int32 → mx_D → mx_E → Option (Int32 × mx_D × mx_E)) {i : Nat} (hi : i + 6 ≤ X.1) (h : RL D E) : ∃ D2 E2, b_law_924 F X k18 (nI i) D E = k18 (nI (i + 6)) D2 E2 ∧ RL D2 E2 := by
  obtain ⟨r, D1, D2, e1, e2, e3⟩ := op_shuts (F := F) (by omega) h (X.2 (i + 1))
  refine ⟨D2, E, ?_, e3⟩
  unfold b_law_924 b_law_2168
  simp (disch := omega) only [nI_add, rk_in, nI_clamp]
  rw [e1, ob_some]
  dsimp only
  rw [e2, ob_some]
  dsimp only
  rw [if_pos rfl]
theorem tn_947 (hF : 10000000000 ≤ F) (X : ev_X) (hX : X.1 ≤ 3072) (k18 : Int32 → mx_D → mx_E → Option (Int32 × mx_D × mx_E)) {i : Nat} (hi : i + 6 ≤ X.1) (h : RL D E) : ∃ D2 E2, b_law_947 F X k18 (nI i) D E = k18 (nI (i + 6)) D2 E2 ∧ RL D2 E2 := by
  obtain ⟨r, D1, D2, e1, e2, e3⟩ := op_cut h (X.2 (i + 1)) (X.2 (i + 2))
  refine ⟨D2, E, ?_, e3⟩
  unfold b_law_947 b_law_2168
  simp (disch := omega) only [nI_add, rk_in, nI_clamp]
  rw [e1, ob_some]
  dsimp only
  rw [e2, ob_some]
  dsimp only
  rw [if_pos rfl]
theorem tn_980 (hF : 10000000000 ≤ F) (X : ev_X) (hX : X.1 ≤ 3072) (k18 : Int32 → mx_D → mx_E → Option (Int32 × mx_D × mx_E)) {i : Nat} (hi : i + 6 ≤ X.1) (h : RL D E) : ∃ D2 E2, b_law_980 F X k18 (nI i) D E = k18 (nI (i + 6)) D2 E2 ∧ RL D2 E2 := by
  obtain ⟨r, D1, D2, e1, e2, e3⟩ := op_books (F := F) (by omega) h (X.2 (i + 1))
  refine ⟨D2, E, ?_, e3⟩
  unfold b_law_980 b_law_2168
  simp (disch := omega) only [nI_add, rk_in, nI_clamp]
  rw [e1, ob_some]
  dsimp only
  rw [e2, ob_some]
  dsimp only
  rw [if_pos rfl]
theorem tn_1003 (hF : 10000000000 ≤ F) (X : ev_X) (hX : X.1 ≤ 3072) (k18 : Int32 → mx_D → mx_E → Option (Int32 × mx_D × mx_E)) {i : Nat} (hi : i + 6 ≤ X.1) (h : RL D E) : ∃ D2 E2, b_law_1003 F X k18 (nI i) D E = k18 (nI (i + 6)) D2 E2 ∧ RL D2 E2 := by
  obtain ⟨r, D1, D2, e1, e2, e3⟩ := op_given (F := F) (by omega) h (X.2 (i + 1)) (X.2 (i + 2))
  refine ⟨D2, E, ?_, e3⟩
  unfold b_law_1003 b_law_2168
  simp (disch := omega) only [nI_add, rk_in, nI_clamp]
  rw [e1, ob_some]
  dsimp only
  rw [e2, ob_some]
  dsimp only
  rw [if_pos rfl]
theorem tn_1036 (hF : 10000000000 ≤ F) (X : ev_X) (hX : X.1 ≤ 3072) (k18 : Int32 → mx_D → mx_E → Option (Int32 × mx_D × mx_E)) {i : Nat} (hi : i + 6 ≤ X.1) (h : RL D E) : ∃ D2 E2, b_law_1036 F X k18 (nI i) D E = k18 (nI (i + 6)) D2 E2 ∧ RL D2 E2 := by
  obtain ⟨r, D1, D2, e1, e2, e3⟩ := op_gifts (F := F) (by omega) h (X.2 (i + 1))
  refine ⟨D2, E, ?_, e3⟩
  unfold b_law_1036 b_law_2168
  simp (disch := omega) only [nI_add, rk_in, nI_clamp]
  rw [e1, ob_some]
  dsimp only
  rw [e2, ob_some]
  dsimp only
  rw [if_pos rfl]
theorem tn_1059 (hF : 10000000000 ≤ F) (X : ev_X) (hX : X.1 ≤ 3072) (k18 : Int32 → mx_D → mx_E → Option (Int32 × mx_D × mx_E)) {i : Nat} (hi : i + 6 ≤ X.1) (h : RL D E) : ∃ D2 E2, b_law_1059 F X k18 (nI i) D E = k18 (nI (i + 6)) D2 E2 ∧ RL D2 E2 := by
  obtain ⟨r, D1, D2, e1, e2, e3⟩ := op_hats (F := F) (by omega) h (X.2 (i + 1))
  refine ⟨D2, E, ?_, e3⟩
  unfold b_law_1059 b_law_2168
  simp (disch := omega) only [nI_add, rk_in, nI_clamp]
  rw [e1, ob_some]
  dsimp only
  rw [e2, ob_some]
  dsimp only
  rw [if_pos rfl]
theorem tn_1082 (hF : 10000000000 ≤ F) (X : ev_X) (hX : X.1 ≤ 3072) (k18 : Int32 → mx_D → mx_E → Option (Int32 × mx_D × mx_E)) {i : Nat} (hi : i + 6 ≤ X.1) (h : RL D E) : ∃ D2 E2, b_law_1082 F X k18 (nI i) D E = k18 (nI (i + 6)) D2 E2 ∧ RL D2 E2 := by
  obtain ⟨r, D1, D2, e1, e2, e3⟩ := op_handed (F := F) (by omega) h (X.2 (i + 1)) (X.2 (i + 2))
  refine ⟨D2, E, ?_, e3⟩
  unfold b_law_1082 b_law_2168
  simp (disch := omega) only [nI_add, rk_in, nI_clamp]
  rw [e1, ob_some]
  dsimp only
  rw [e2, ob_some]
  dsimp only
  rw [if_pos rfl]
theorem tn_1115 (hF : 10000000000 ≤ F) (X : ev_X) (hX : X.1 ≤ 3072) (k18 : Int32 → mx_D → mx_E → Option (Int32 × mx_D × mx_E)) {i : Nat} (hi : i + 6 ≤ X.1) (h : RL D E) : ∃ D2 E2, b_law_1115 F X k18 (nI i) D E = k18 (nI (i + 6)) D2 E2 ∧ RL D2 E2 := by
  obtain ⟨r, D1, D2, e1, e2, e3⟩ := op_rings (F := F) (by omega) h (X.2 (i + 1)) (X.2 (i + 2))
  refine ⟨D2, E, ?_, e3⟩
  unfold b_law_1115 b_law_2168
  simp (disch := omega) only [nI_add, rk_in, nI_clamp]
  rw [e1, ob_some]
  dsimp only
  rw [e2, ob_some]
  dsimp only
  rw [if_pos rfl]
theorem tn_1148 (hF : 10000000000 ≤ F) (X : ev_X) (hX : X.1 ≤ 3072) (k18 : Int32 → mx_D → mx_E → Option (Int32 × mx_D × mx_E)) {i : Nat} (hi : i + 6 ≤ X.1) (h : RL D E) : ∃ D2 E2, b_law_1148 F X k18 (nI i) D E = k18 (nI (i + 6)) D2 E2 ∧ RL D2 E2 := by
  obtain ⟨r, e1, e2⟩ := q_bare (F := F) (by omega) h.2.2.1 h.1 
  refine ⟨D, E, ?_, h⟩
  unfold b_law_1148 b_law_2168
  simp (disch := omega) only [nI_add]
  rw [e1, ob_some, e2, ob_some, if_pos rfl]
theorem tn_1161 (hF : 10000000000 ≤ F) (X : ev_X) (hX : X.1 ≤ 3072) (k18 : Int32 → mx_D → mx_E → Option (Int32 × mx_D × mx_E)) {i : Nat} (hi : i + 6 ≤ X.1) (h : RL D E) : ∃ D2 E2, b_law_1161 F X k18 (nI i) D E = k18 (nI (i + 6)) D2 E2 ∧ RL D2 E2 := by
  obtain ⟨r, D1, D2, e1, e2, e3⟩ := op_kinds (F := F) (by omega) h (X.2 (i + 1))
  refine ⟨D2, E, ?_, e3⟩
  unfold b_law_1161 b_law_2168
  simp (disch := omega) only [nI_add, rk_in, nI_clamp]
  rw [e1, ob_some]
  dsimp only
  rw [e2, ob_some]
  dsimp only
  rw [if_pos rfl]
theorem tn_1184 (hF : 10000000000 ≤ F) (X : ev_X) (hX : X.1 ≤ 3072) (k18 : Int32 → mx_D → mx_E → Option (Int32 × mx_D × mx_E)) {i : Nat} (hi : i + 6 ≤ X.1) (h : RL D E) : ∃ D2 E2, b_law_1184 F X k18 (nI i) D E = k18 (nI (i + 6)) D2 E2 ∧ RL D2 E2 := by
  obtain ⟨r, D1, D2, e1, e2, e3⟩ := op_wide (F := F) (by omega) h (X.2 (i + 1)) (X.2 (i + 2))
  refine ⟨D2, E, ?_, e3⟩
  unfold b_law_1184 b_law_2168
  simp (disch := omega) only [nI_add, rk_in, nI_clamp]
  rw [e1, ob_some]
  dsimp only
  rw [e2, ob_some]
  dsimp only
  rw [if_pos rfl]
theorem tn_1217 (hF : 10000000000 ≤ F) (X : ev_X) (hX : X.1 ≤ 3072) (k18 : Int32 → mx_D → mx_E → Option (Int32 × mx_D × mx_E)) {i : Nat} (hi : i + 6 ≤ X.1) (h : RL D E) : ∃ D2 E2, b_law_1217 F X k18 (nI i) D E = k18 (nI (i + 6)) D2 E2 ∧ RL D2 E2 := by
  obtain ⟨D1, a1, a2⟩ := x_away (F := F) (w := D 117) (by omega) h.2.2.1 h.1 (X.2 (i + 1))
  have e7 := a2 117 (by omega)
  obtain ⟨D2, b1, b2⟩ := m_away (F := F) (D := D1) (by omega) (by rw [e7]; exact h.1) (X.2 (i + 1))
  rw [e7] at b1
  refine ⟨D2, E, ?_, RL_q h (FR_XM a2 b2) (fun _ _ _ => rfl)⟩
  unfold b_law_1217 b_law_2168
  simp (disch := omega) only [nI_add, rk_in, nI_clamp]
  rw [a1, ob_some]
  dsimp only
  rw [b1, ob_some]
  dsimp only
  rw [if_pos rfl]
theorem tn_1240 (hF : 10000000000 ≤ F) (X : ev_X) (hX : X.1 ≤ 3072) (k18 : Int32 → mx_D → mx_E → Option (Int32 × mx_D × mx_E)) {i : Nat} (hi : i + 6 ≤ X.1) (h : RL D E) : ∃ D2 E2, b_law_1240 F X k18 (nI i) D E = k18 (nI (i + 6)) D2 E2 ∧ RL D2 E2 := by
  obtain ⟨D1, a1, a2⟩ := x_stay (F := F) (w := D 117) (by omega) h.2.2.1 h.1 (X.2 (i + 1))
  have e7 := a2 117 (by omega)
  obtain ⟨D2, b1, b2⟩ := m_stay (F := F) (D := D1) (by omega) (by rw [e7]; exact h.1) (X.2 (i + 1))
  rw [e7] at b1
  refine ⟨D2, E, ?_, RL_q h (FR_XM a2 b2) (fun _ _ _ => rfl)⟩
  unfold b_law_1240 b_law_2168
  simp (disch := omega) only [nI_add, rk_in, nI_clamp]
  rw [a1, ob_some]
  dsimp only
  rw [b1, ob_some]
  dsimp only
  rw [if_pos rfl]
theorem tn_1263 (hF : 10000000000 ≤ F) (X : ev_X) (hX : X.1 ≤ 3072) (k18 : Int32 → mx_D → mx_E → Option (Int32 × mx_D × mx_E)) {i : Nat} (hi : i + 6 ≤ X.1) (h : RL D E) : ∃ D2 E2, b_law_1263 F X k18 (nI i) D E = k18 (nI (i + 6)) D2 E2 ∧ RL D2 E2 := by
  obtain ⟨D1, a1, a2⟩ := x_stilts (F := F) (w := D 117) (by omega) h.2.2.1 h.1 (X.2 (i + 1)) (X.2 (i + 2))
  have e7 := a2 117 (by omega)
  obtain ⟨D2, b1, b2⟩ := m_stilts (F := F) (D := D1) (by omega) (by rw [e7]; exact h.1) (X.2 (i + 1)) (X.2 (i + 2))
  rw [e7] at b1
  refine ⟨D2, E, ?_, RL_q h (FR_XM a2 b2) (fun _ _ _ => rfl)⟩
  unfold b_law_1263 b_law_2168
  simp (disch := omega) only [nI_add, rk_in, nI_clamp]
  rw [a1, ob_some]
  dsimp only
  rw [b1, ob_some]
  dsimp only
  rw [if_pos rfl]
theorem tn_1296 (hF : 10000000000 ≤ F) (X : ev_X) (hX : X.1 ≤ 3072) (k18 : Int32 → mx_D → mx_E → Option (Int32 × mx_D × mx_E)) {i : Nat} (hi : i + 6 ≤ X.1) (h : RL D E) : ∃ D2 E2, b_law_1296 F X k18 (nI i) D E = k18 (nI (i + 6)) D2 E2 ∧ RL D2 E2 := by
  obtain ⟨D1, a1, a2⟩ := x_lengths (F := F) (w := D 117) (by omega) h.2.2.1 h.1 (X.2 (i + 1)) (X.2 (i + 2))
  have e7 := a2 117 (by omega)
  obtain ⟨D2, b1, b2⟩ := m_lengths (F := F) (D := D1) (by omega) (by rw [e7]; exact h.1) (X.2 (i + 1)) (X.2 (i + 2))
  rw [e7] at b1
  refine ⟨D2, E, ?_, RL_q h (FR_XM a2 b2) (fun _ _ _ => rfl)⟩
  unfold b_law_1296 b_law_2168
  simp (disch := omega) only [nI_add, rk_in, nI_clamp]
  rw [a1, ob_some]
  dsimp only
  rw [b1, ob_some]
  dsimp only
  rw [if_pos rfl]
theorem tn_1329 (hF : 10000000000 ≤ F) (X : ev_X) (hX : X.1 ≤ 3072) (k18 : Int32 → mx_D → mx_E → Option (Int32 × mx_D × mx_E)) {i : Nat} (hi : i + 6 ≤ X.1) (h : RL D E) : ∃ D2 E2, b_law_1329 F X k18 (nI i) D E = k18 (nI (i + 6)) D2 E2 ∧ RL D2 E2 := by
  have a1 := x_hump (F := F) (by omega) h.2.2.1 h.1 (X.2 (i + 1)) (X.2 (i + 2)) (X.2 (i + 3))
  obtain ⟨D2, b1, b2⟩ := m_hump (F := F) (D := D) (by omega) h.1 (X.2 (i + 1)) (X.2 (i + 2)) (X.2 (i + 3))
  refine ⟨D2, E, ?_, RL_q h (FR_XM (FX_r D) b2) (fun _ _ _ => rfl)⟩
  unfold b_law_1329 b_law_2168
  simp (disch := omega) only [nI_add, rk_in, nI_clamp]
  rw [a1, ob_some, b1, ob_some]
  dsimp only
  rw [if_pos rfl]
theorem tn_1372 (hF : 10000000000 ≤ F) (X : ev_X) (hX : X.1 ≤ 3072) (k18 : Int32 → mx_D → mx_E → Option (Int32 × mx_D × mx_E)) {i : Nat} (hi : i + 6 ≤ X.1) (h : RL D E) : ∃ D2 E2, b_law_1372 F X k18 (nI i) D E = k18 (nI (i + 6)) D2 E2 ∧ RL D2 E2 := by
  obtain ⟨D1, a1, a2⟩ := x_seat (F := F) (w := D 117) (by omega) h.2.2.1 h.1 (X.2 (i + 1)) (X.2 (i + 2))
  have e7 := a2 117 (by omega)
  obtain ⟨D2, b1, b2⟩ := m_seat (F := F) (D := D1) (by omega) (by rw [e7]; exact h.1) (X.2 (i + 1)) (X.2 (i + 2))
  rw [e7] at b1
  refine ⟨D2, E, ?_, RL_q h (FR_XM a2 b2) (fun _ _ _ => rfl)⟩
  unfold b_law_1372 b_law_2168
  simp (disch := omega) only [nI_add, rk_in, nI_clamp]
  rw [a1, ob_some]
  dsimp only
  rw [b1, ob_some]
  dsimp only
  rw [if_pos rfl]
theorem tn_1405 (hF : 10000000000 ≤ F) (X : ev_X) (hX : X.1 ≤ 3072) (k18 : Int32 → mx_D → mx_E → Option (Int32 × mx_D × mx_E)) {i : Nat} (hi : i + 6 ≤ X.1) (h : RL D E) : ∃ D2 E2, b_law_1405 F X k18 (nI i) D E = k18 (nI (i + 6)) D2 E2 ∧ RL D2 E2 := by
  obtain ⟨r, D1, D2, e1, e2, e3⟩ := op_sits (F := F) (by omega) h (X.2 (i + 1)) (X.2 (i + 2)) (X.2 (i + 3))
  refine ⟨D2, E, ?_, e3⟩
  unfold b_law_1405 b_law_2168
  simp (disch := omega) only [nI_add, rk_in, nI_clamp]
  rw [e1, ob_some]
  dsimp only
  rw [e2, ob_some]
  dsimp only
  rw [if_pos rfl]
theorem tn_1448 (hF : 10000000000 ≤ F) (X : ev_X) (hX : X.1 ≤ 3072) (k18 : Int32 → mx_D → mx_E → Option (Int32 × mx_D × mx_E)) {i : Nat} (hi : i + 6 ≤ X.1) (h : RL D E) : ∃ D2 E2, b_law_1448 F X k18 (nI i) D E = k18 (nI (i + 6)) D2 E2 ∧ RL D2 E2 := by
  obtain ⟨r, D1, D2, e1, e2, e3⟩ := op_change h (X.2 (i + 1)) (X.2 (i + 2))
  refine ⟨D2, E, ?_, e3⟩
  unfold b_law_1448 b_law_2168
  simp (disch := omega) only [nI_add, rk_in, nI_clamp]
  rw [e1, ob_some]
  dsimp only
  rw [e2, ob_some]
  dsimp only
  rw [if_pos rfl]
theorem tn_1481 (hF : 10000000000 ≤ F) (X : ev_X) (hX : X.1 ≤ 3072) (k18 : Int32 → mx_D → mx_E → Option (Int32 × mx_D × mx_E)) {i : Nat} (hi : i + 6 ≤ X.1) (h : RL D E) : ∃ D2 E2, b_law_1481 F X k18 (nI i) D E = k18 (nI (i + 6)) D2 E2 ∧ RL D2 E2 := by
  obtain ⟨D1, a1, a2⟩ := x_pair (F := F) (w := D 117) (by omega) h.2.2.1 h.1 (X.2 (i + 1))
  have e7 := a2 117 (by omega)
  obtain ⟨D2, b1, b2⟩ := m_pair (F := F) (D := D1) (by omega) (by rw [e7]; exact h.1) (X.2 (i + 1))
  rw [e7] at b1
  refine ⟨D2, E, ?_, RL_q h (FR_XM a2 b2) (fun _ _ _ => rfl)⟩
  unfold b_law_1481 b_law_2168
  simp (disch := omega) only [nI_add, rk_in, nI_clamp]
  rw [a1, ob_some]
  dsimp only
  rw [b1, ob_some]
  dsimp only
  rw [if_pos rfl]
theorem tn_1504 (hF : 10000000000 ≤ F) (X : ev_X) (hX : X.1 ≤ 3072) (k18 : Int32 → mx_D → mx_E → Option (Int32 × mx_D × mx_E)) {i : Nat} (hi : i + 6 ≤ X.1) (h : RL D E) : ∃ D2 E2, b_law_1504 F X k18 (nI i) D E = k18 (nI (i + 6)) D2 E2 ∧ RL D2 E2 := by
  obtain ⟨r, D1, D2, e1, e2, e3⟩ := op_wears (F := F) (by omega) h (X.2 (i + 1)) (X.2 (i + 2))
  refine ⟨D2, E, ?_, e3⟩
  unfold b_law_1504 b_law_2168
  simp (disch := omega) only [nI_add, rk_in, nI_clamp]
  rw [e1, ob_some]
  dsimp only
  rw [e2, ob_some]
  dsimp only
  rw [if_pos rfl]
theorem tn_1537 (hF : 10000000000 ≤ F) (X : ev_X) (hX : X.1 ≤ 3072) (k18 : Int32 → mx_D → mx_E → Option (Int32 × mx_D × mx_E)) {i : Nat} (hi : i + 6 ≤ X.1) (h : RL D E) : ∃ D2 E2, b_law_1537 F X k18 (nI i) D E = k18 (nI (i + 6)) D2 E2 ∧ RL D2 E2 := by
  obtain ⟨r, D1, D2, e1, e2, e3⟩ := op_stands h (X.2 (i + 1)) (X.2 (i + 2))
  refine ⟨D2, E, ?_, e3⟩
  unfold b_law_1537 b_law_2168
  simp (disch := omega) only [nI_add, rk_in, nI_clamp]
  rw [e1, ob_some]
  dsimp only
  rw [e2, ob_some]
  dsimp only
  rw [if_pos rfl]
theorem tn_1570 (hF : 10000000000 ≤ F) (X : ev_X) (hX : X.1 ≤ 3072) (k18 : Int32 → mx_D → mx_E → Option (Int32 × mx_D × mx_E)) {i : Nat} (hi : i + 6 ≤ X.1) (h : RL D E) : ∃ D2 E2, b_law_1570 F X k18 (nI i) D E = k18 (nI (i + 6)) D2 E2 ∧ RL D2 E2 := by
  obtain ⟨r, D1, D2, e1, e2, e3⟩ := op_trench h (X.2 (i + 1)) (X.2 (i + 2)) (X.2 (i + 3))
  refine ⟨D2, E, ?_, e3⟩
  unfold b_law_1570 b_law_2168
  simp (disch := omega) only [nI_add, rk_in, nI_clamp]
  rw [e1, ob_some]
  dsimp only
  rw [e2, ob_some]
  dsimp only
  rw [if_pos rfl]
theorem tn_1613 (hF : 10000000000 ≤ F) (X : ev_X) (hX : X.1 ≤ 3072) (k18 : Int32 → mx_D → mx_E → Option (Int32 × mx_D × mx_E)) {i : Nat} (hi : i + 6 ≤ X.1) (h : RL D E) : ∃ D2 E2, b_law_1613 F X k18 (nI i) D E = k18 (nI (i + 6)) D2 E2 ∧ RL D2 E2 := by
  obtain ⟨D1, a1, a2⟩ := x_digs (F := F) (w := D 117) (by omega) h.2.2.1 h.1 (X.2 (i + 1)) (X.2 (i + 2))
  have e7 := a2 117 (by omega)
  obtain ⟨D2, b1, b2⟩ := m_digs (F := F) (D := D1) (by omega) (by rw [e7]; exact h.1) (by rw [e7]; exact h.2.1) (X.2 (i + 1)) (X.2 (i + 2))
  rw [e7] at b1
  refine ⟨D2, E, ?_, RL_q h (FR_XM a2 b2) (fun _ _ _ => rfl)⟩
  unfold b_law_1613 b_law_2168
  simp (disch := omega) only [nI_add, rk_in, nI_clamp]
  rw [a1, ob_some]
  dsimp only
  rw [b1, ob_some]
  dsimp only
  rw [if_pos rfl]
theorem tn_1646 (hF : 10000000000 ≤ F) (X : ev_X) (hX : X.1 ≤ 3072) (k18 : Int32 → mx_D → mx_E → Option (Int32 × mx_D × mx_E)) {i : Nat} (hi : i + 6 ≤ X.1) (h : RL D E) : ∃ D2 E2, b_law_1646 F X k18 (nI i) D E = k18 (nI (i + 6)) D2 E2 ∧ RL D2 E2 := by
  obtain ⟨r, D1, D2, e1, e2, e3⟩ := op_law h (X.2 (i + 1))
  refine ⟨D2, E, ?_, e3⟩
  unfold b_law_1646 b_law_2168
  simp (disch := omega) only [nI_add, rk_in, nI_clamp]
  rw [e1]
  dsimp only
  rw [e2]
  dsimp only
  rw [if_pos rfl]
theorem tn_1669 (hF : 10000000000 ≤ F) (X : ev_X) (hX : X.1 ≤ 3072) (k18 : Int32 → mx_D → mx_E → Option (Int32 × mx_D × mx_E)) {i : Nat} (hi : i + 6 ≤ X.1) (h : RL D E) : ∃ D2 E2, b_law_1669 F X k18 (nI i) D E = k18 (nI (i + 6)) D2 E2 ∧ RL D2 E2 := by
  obtain ⟨r, D1, D2, e1, e2, e3⟩ := op_least (F := F) (by omega) h (X.2 (i + 1)) (X.2 (i + 2))
  refine ⟨D2, E, ?_, e3⟩
  unfold b_law_1669 b_law_2168
  simp (disch := omega) only [nI_add, rk_in, nI_clamp]
  rw [e1, ob_some]
  dsimp only
  rw [e2, ob_some]
  dsimp only
  rw [if_pos rfl]
theorem tn_1702 (hF : 10000000000 ≤ F) (X : ev_X) (hX : X.1 ≤ 3072) (k18 : Int32 → mx_D → mx_E → Option (Int32 × mx_D × mx_E)) {i : Nat} (hi : i + 6 ≤ X.1) (h : RL D E) : ∃ D2 E2, b_law_1702 F X k18 (nI i) D E = k18 (nI (i + 6)) D2 E2 ∧ RL D2 E2 := by
  obtain ⟨r, D1, D2, e1, e2, e3⟩ := op_seen (F := F) (by omega) h (X.2 (i + 1)) (X.2 (i + 2))
  refine ⟨D2, E, ?_, e3⟩
  unfold b_law_1702 b_law_2168
  simp (disch := omega) only [nI_add, rk_in, nI_clamp]
  rw [e1, ob_some]
  dsimp only
  rw [e2, ob_some]
  dsimp only
  rw [if_pos rfl]
theorem tn_1735 (hF : 10000000000 ≤ F) (X : ev_X) (hX : X.1 ≤ 3072) (k18 : Int32 → mx_D → mx_E → Option (Int32 × mx_D × mx_E)) {i : Nat} (hi : i + 6 ≤ X.1) (h : RL D E) : ∃ D2 E2, b_law_1735 F X k18 (nI i) D E = k18 (nI (i + 6)) D2 E2 ∧ RL D2 E2 := by
  obtain ⟨r, D1, D2, e1, e2, e3⟩ := op_sure (F := F) (by omega) h (X.2 (i + 1)) (X.2 (i + 2)) (X.2 (i + 3))
  refine ⟨D2, E, ?_, e3⟩
  unfold b_law_1735 b_law_2168
  simp (disch := omega) only [nI_add, rk_in, nI_clamp]
  rw [e1, ob_some]
  dsimp only
  rw [e2, ob_some]
  dsimp only
  rw [if_pos rfl]
theorem tn_1778 (hF : 10000000000 ≤ F) (X : ev_X) (hX : X.1 ≤ 3072) (k18 : Int32 → mx_D → mx_E → Option (Int32 × mx_D × mx_E)) {i : Nat} (hi : i + 6 ≤ X.1) (h : RL D E) : ∃ D2 E2, b_law_1778 F X k18 (nI i) D E = k18 (nI (i + 6)) D2 E2 ∧ RL D2 E2 := by
  obtain ⟨r, D1, e1, e2, e3⟩ := op_odd (F := F) (by omega) h (X.2 (i + 1)) (X.2 (i + 2))
  refine ⟨D1, E, ?_, e3⟩
  unfold b_law_1778 b_law_2168
  simp (disch := omega) only [nI_add, rk_in, nI_clamp]
  rw [e1, ob_some]
  dsimp only
  rw [e2, ob_some, if_pos rfl]
theorem tn_1811 (hF : 10000000000 ≤ F) (X : ev_X) (hX : X.1 ≤ 3072) (k18 : Int32 → mx_D → mx_E → Option (Int32 × mx_D × mx_E)) {i : Nat} (hi : i + 6 ≤ X.1) (h : RL D E) : ∃ D2 E2, b_law_1811 F X k18 (nI i) D E = k18 (nI (i + 6)) D2 E2 ∧ RL D2 E2 := by
  obtain ⟨D1, a1, a2⟩ := x_drawn (F := F) (w := D 117) (by omega) h.2.2.1 h.1 (X.2 (i + 1))
  have e7 := a2 117 (by omega)
  obtain ⟨D2, E2, b1, b2, b3⟩ := m_drawn (F := F) (D := D1) (E := E) (by omega) (by rw [e7]; exact h.1) (X.2 (i + 1))
  rw [e7] at b1
  refine ⟨D2, E2, ?_, RL_q h (FR_XM a2 b2) b3⟩
  unfold b_law_1811 b_law_2168
  simp (disch := omega) only [nI_add, rk_in, nI_clamp]
  rw [a1, ob_some]
  dsimp only
  rw [b1, ob_some]
  dsimp only
  rw [if_pos rfl]
theorem tn_1834 (hF : 10000000000 ≤ F) (X : ev_X) (hX : X.1 ≤ 3072) (k18 : Int32 → mx_D → mx_E → Option (Int32 × mx_D × mx_E)) {i : Nat} (hi : i + 6 ≤ X.1) (h : RL D E) : ∃ D2 E2, b_law_1834 F X k18 (nI i) D E = k18 (nI (i + 6)) D2 E2 ∧ RL D2 E2 := by
  obtain ⟨D1, a1, a2⟩ := x_grown (F := F) (w := D 117) (by omega) h.2.2.1 h.1 (X.2 (i + 1)) (X.2 (i + 2)) (X.2 (i + 3))
  have e7 := a2 117 (by omega)
  obtain ⟨D2, E2, b1, b2, b3⟩ := m_grown (F := F) (D := D1) (E := E) (by omega) (by rw [e7]; exact h.1) (X.2 (i + 1)) (X.2 (i + 2)) (X.2 (i + 3))
  rw [e7] at b1
  refine ⟨D2, E2, ?_, RL_q h (FR_XM a2 b2) b3⟩
  unfold b_law_1834 b_law_2168
  simp (disch := omega) only [nI_add, rk_in, nI_clamp]
  rw [a1, ob_some]
  dsimp only
  rw [b1, ob_some]
  dsimp only
  rw [if_pos rfl]
theorem tn_1877 (hF : 10000000000 ≤ F) (X : ev_X) (hX : X.1 ≤ 3072) (k18 : Int32 → mx_D → mx_E → Option (Int32 × mx_D × mx_E)) {i : Nat} (hi : i + 6 ≤ X.1) (h : RL D E) : ∃ D2 E2, b_law_1877 F X k18 (nI i) D E = k18 (nI (i + 6)) D2 E2 ∧ RL D2 E2 := by
  obtain ⟨D1, a1, a2⟩ := x_years (F := F) (w := D 117) (by omega) h.2.2.1 h.1 (X.2 (i + 1)) (X.2 (i + 2)) (X.2 (i + 3))
  have e7 := a2 117 (by omega)
  obtain ⟨D2, E2, b1, b2, b3⟩ := m_years (F := F) (D := D1) (E := E) (by omega) (by rw [e7]; exact h.1) (X.2 (i + 1)) (X.2 (i + 2)) (X.2 (i + 3))
  rw [e7] at b1
  refine ⟨D2, E2, ?_, RL_q h (FR_XM a2 b2) b3⟩
  unfold b_law_1877 b_law_2168
  simp (disch := omega) only [nI_add, rk_in, nI_clamp]
  rw [a1, ob_some]
  dsimp only
  rw [b1, ob_some]
  dsimp only
  rw [if_pos rfl]
theorem tn_1920 (hF : 10000000000 ≤ F) (X : ev_X) (hX : X.1 ≤ 3072) (k18 : Int32 → mx_D → mx_E → Option (Int32 × mx_D × mx_E)) {i : Nat} (hi : i + 6 ≤ X.1) (h : RL D E) : ∃ D2 E2, b_law_1920 F X k18 (nI i) D E = k18 (nI (i + 6)) D2 E2 ∧ RL D2 E2 := by
  obtain ⟨r, e1, e2⟩ := q_count (F := F) (by omega) h (X.2 (i + 1))
  refine ⟨D, E, ?_, h⟩
  unfold b_law_1920 b_law_2168
  simp (disch := omega) only [nI_add, rk_in, nI_clamp]
  rw [e1, ob_some, e2, ob_some, if_pos rfl]
theorem tn_1943 (hF : 10000000000 ≤ F) (X : ev_X) (hX : X.1 ≤ 3072) (k18 : Int32 → mx_D → mx_E → Option (Int32 × mx_D × mx_E)) {i : Nat} (hi : i + 6 ≤ X.1) (h : RL D E) : ∃ D2 E2, b_law_1943 F X k18 (nI i) D E = k18 (nI (i + 6)) D2 E2 ∧ RL D2 E2 := by
  obtain ⟨r, D1, D2, e1, e2, e3⟩ := op_image (F := F) (by omega) h (X.2 (i + 1))
  refine ⟨D2, E, ?_, e3⟩
  unfold b_law_1943 b_law_2168
  simp (disch := omega) only [nI_add, rk_in, nI_clamp]
  rw [e1, ob_some]
  dsimp only
  rw [e2, ob_some]
  dsimp only
  rw [if_pos rfl]
theorem tn_1966 (hF : 10000000000 ≤ F) (X : ev_X) (hX : X.1 ≤ 3072) (k18 : Int32 → mx_D → mx_E → Option (Int32 × mx_D × mx_E)) {i : Nat} (hi : i + 6 ≤ X.1) (h : RL D E) : ∃ D2 E2, b_law_1966 F X k18 (nI i) D E = k18 (nI (i + 6)) D2 E2 ∧ RL D2 E2 := by
  obtain ⟨r, D1, D2, e1, e2, e3⟩ := op_back (F := F) (by omega) h (X.2 (i + 1))
  refine ⟨D2, E, ?_, e3⟩
  unfold b_law_1966 b_law_2168
  simp (disch := omega) only [nI_add, rk_in, nI_clamp]
  rw [e1, ob_some]
  dsimp only
  rw [e2, ob_some]
  dsimp only
  rw [if_pos rfl]
theorem tn_1989 (hF : 10000000000 ≤ F) (X : ev_X) (hX : X.1 ≤ 3072) (k18 : Int32 → mx_D → mx_E → Option (Int32 × mx_D × mx_E)) {i : Nat} (hi : i + 6 ≤ X.1) (h : RL D E) : ∃ D2 E2, b_law_1989 F X k18 (nI i) D E = k18 (nI (i + 6)) D2 E2 ∧ RL D2 E2 := by
  obtain ⟨r, D1, E1, D2, E2, e1, e2, e3⟩ := op_row (F := F) (by omega) h (X.2 (i + 1)) (X.2 (i + 2)) (X.2 (i + 3))
  refine ⟨D2, E2, ?_, e3⟩
  unfold b_law_1989 b_law_2168
  simp (disch := omega) only [nI_add, rk_in, nI_clamp]
  rw [e1, ob_some]
  dsimp only
  rw [e2, ob_some]
  dsimp only
  rw [if_pos rfl]
theorem tn_2032 (hF : 10000000000 ≤ F) (X : ev_X) (hX : X.1 ≤ 3072) (k18 : Int32 → mx_D → mx_E → Option (Int32 × mx_D × mx_E)) {i : Nat} (hi : i + 6 ≤ X.1) (h : RL D E) : ∃ D2 E2, b_law_2032 F X k18 (nI i) D E = k18 (nI (i + 6)) D2 E2 ∧ RL D2 E2 := by
  obtain ⟨r, E1, E2, e1, e2, e3⟩ := op_write h (X.2 (i + 1)) (X.2 (i + 2)) ((((X.2 (i + 3)).toInt64) <<< (((nI 32)).toInt64 &&& 63)) ||| (((X.2 (i + 4)).toInt64) &&& (4294967295 : Int64)))
  refine ⟨D, E2, ?_, e3⟩
  unfold b_law_2032 b_law_2168
  simp (disch := omega) only [nI_add, rk_in, nI_clamp]
  rw [e1, ob_some]
  dsimp only
  rw [e2, ob_some]
  dsimp only
  rw [if_pos rfl]
theorem tn_2105 (hF : 10000000000 ≤ F) (X : ev_X) (hX : X.1 ≤ 3072) (k18 : Int32 → mx_D → mx_E → Option (Int32 × mx_D × mx_E)) {i : Nat} (hi : i + 6 ≤ X.1) (h : RL D E) : ∃ D2 E2, b_law_2105 F X k18 (nI i) D E = k18 (nI (i + 6)) D2 E2 ∧ RL D2 E2 := by
  obtain ⟨r, E1, E2, e1, e2, e3⟩ := op_paste (F := F) (by omega) h (X.2 (i + 1)) (X.2 (i + 2)) (X.2 (i + 3)) (X.2 (i + 4)) (X.2 (i + 5))
  refine ⟨D, E2, ?_, e3⟩
  unfold b_law_2105 b_law_2168
  simp (disch := omega) only [nI_add, rk_in, nI_clamp]
  rw [e1, ob_some]
  dsimp only
  rw [e2, ob_some]
  dsimp only
  rw [if_pos rfl]
theorem tn_18 (hF : 10000000000 ≤ F) (X : ev_X) (hX : X.1 ≤ 3072) (k18 : Int32 → mx_D → mx_E → Option (Int32 × mx_D × mx_E)) {i : Nat} (hi : i + 6 ≤ X.1) (h : RL D E) : ∃ D2 E2, b_law_18 F X k18 (nI i) D E = k18 (nI (i + 6)) D2 E2 ∧ RL D2 E2 := by
  unfold b_law_18
  have e0 : ¬ nI X.1 - nI 6 < nI i := by
    rw [iI_nI X.1, iI_nI 6, iI_sub, iI_nI i, iI_lt (by omega) (by omega) (by omega) (by omega)]
    omega
  rw [if_neg e0, rk_in (show i < X.1 by omega) (by omega), nI_clamp (by omega)]
  generalize X.2 i &&& nI 63 = q
  by_cases c0 : q = nI 0
  · rw [if_pos c0]
    exact tn_288 hF X hX k18 hi h
  rw [if_neg c0]
  by_cases c1 : q = nI 1
  · rw [if_pos c1]
    exact tn_351 hF X hX k18 hi h
  rw [if_neg c1]
  by_cases c2 : q = nI 2
  · rw [if_pos c2]
    exact tn_374 hF X hX k18 hi h
  rw [if_neg c2]
  by_cases c3 : q = nI 3
  · rw [if_pos c3]
    exact tn_387 hF X hX k18 hi h
  rw [if_neg c3]
  by_cases c4 : q = nI 4
  · rw [if_pos c4]
    exact tn_410 hF X hX k18 hi h
  rw [if_neg c4]
  by_cases c5 : q = nI 5
  · rw [if_pos c5]
    exact tn_443 hF X hX k18 hi h
  rw [if_neg c5]
  by_cases c6 : q = nI 6
  · rw [if_pos c6]
    exact tn_476 hF X hX k18 hi h
  rw [if_neg c6]
  by_cases c7 : q = nI 7
  · rw [if_pos c7]
    exact tn_509 hF X hX k18 hi h
  rw [if_neg c7]
  by_cases c8 : q = nI 8
  · rw [if_pos c8]
    exact tn_542 hF X hX k18 hi h
  rw [if_neg c8]
  by_cases c9 : q = nI 9
  · rw [if_pos c9]
    exact tn_575 hF X hX k18 hi h
  rw [if_neg c9]
  by_cases c10 : q = nI 10
  · rw [if_pos c10]
    exact tn_608 hF X hX k18 hi h
  rw [if_neg c10]
  by_cases c11 : q = nI 11
  · rw [if_pos c11]
    exact tn_641 hF X hX k18 hi h
  rw [if_neg c11]
  by_cases c12 : q = nI 12
  · rw [if_pos c12]
    exact tn_664 hF X hX k18 hi h
  rw [if_neg c12]
  by_cases c13 : q = nI 13
  · rw [if_pos c13]
    exact tn_687 hF X hX k18 hi h
  rw [if_neg c13]
  by_cases c14 : q = nI 14
  · rw [if_pos c14]
    exact tn_720 hF X hX k18 hi h
  rw [if_neg c14]
  by_cases c15 : q = nI 15
  · rw [if_pos c15]
    exact tn_753 hF X hX k18 hi h
  rw [if_neg c15]
  by_cases c16 : q = nI 16
  · rw [if_pos c16]
    exact tn_776 hF X hX k18 hi h
  rw [if_neg c16]
  by_cases c17 : q = nI 17
  · rw [if_pos c17]
    exact tn_809 hF X hX k18 hi h
  rw [if_neg c17]
  by_cases c18 : q = nI 18
  · rw [if_pos c18]
    exact tn_832 hF X hX k18 hi h
  rw [if_neg c18]
  by_cases c19 : q = nI 19
  · rw [if_pos c19]
    exact tn_855 hF X hX k18 hi h
  rw [if_neg c19]
  by_cases c20 : q = nI 20
  · rw [if_pos c20]
    exact tn_888 hF X hX k18 hi h
  rw [if_neg c20]
  by_cases c21 : q = nI 21
  · rw [if_pos c21]
    exact tn_901 hF X hX k18 hi h
  rw [if_neg c21]
  by_cases c22 : q = nI 22
  · rw [if_pos c22]
    exact tn_924 hF X hX k18 hi h
  rw [if_neg c22]
  by_cases c23 : q = nI 23
  · rw [if_pos c23]
    exact tn_947 hF X hX k18 hi h
  rw [if_neg c23]
  by_cases c24 : q = nI 24
  · rw [if_pos c24]
    exact tn_980 hF X hX k18 hi h
  rw [if_neg c24]
  by_cases c25 : q = nI 25
  · rw [if_pos c25]
    exact tn_1003 hF X hX k18 hi h
  rw [if_neg c25]
  by_cases c26 : q = nI 26
  · rw [if_pos c26]
    exact tn_1036 hF X hX k18 hi h
  rw [if_neg c26]
  by_cases c27 : q = nI 27
  · rw [if_pos c27]
    exact tn_1059 hF X hX k18 hi h
  rw [if_neg c27]
  by_cases c28 : q = nI 28
  · rw [if_pos c28]
    exact tn_1082 hF X hX k18 hi h
  rw [if_neg c28]
  by_cases c29 : q = nI 29
  · rw [if_pos c29]
    exact tn_1115 hF X hX k18 hi h
  rw [if_neg c29]
  by_cases c30 : q = nI 30
  · rw [if_pos c30]
    exact tn_1148 hF X hX k18 hi h
  rw [if_neg c30]
  by_cases c31 : q = nI 31
  · rw [if_pos c31]
    exact tn_1161 hF X hX k18 hi h
  rw [if_neg c31]
  by_cases c32 : q = nI 32
  · rw [if_pos c32]
    exact tn_1184 hF X hX k18 hi h
  rw [if_neg c32]
  by_cases c33 : q = nI 33
  · rw [if_pos c33]
    exact tn_1217 hF X hX k18 hi h
  rw [if_neg c33]
  by_cases c34 : q = nI 34
  · rw [if_pos c34]
    exact tn_1240 hF X hX k18 hi h
  rw [if_neg c34]
  by_cases c35 : q = nI 35
  · rw [if_pos c35]
    exact tn_1263 hF X hX k18 hi h
  rw [if_neg c35]
  by_cases c36 : q = nI 36
  · rw [if_pos c36]
    exact tn_1296 hF X hX k18 hi h
  rw [if_neg c36]
  by_cases c37 : q = nI 37
  · rw [if_pos c37]
    exact tn_1329 hF X hX k18 hi h
  rw [if_neg c37]
  by_cases c38 : q = nI 38
  · rw [if_pos c38]
    exact tn_1372 hF X hX k18 hi h
  rw [if_neg c38]
  by_cases c39 : q = nI 39
  · rw [if_pos c39]
    exact tn_1405 hF X hX k18 hi h
  rw [if_neg c39]
  by_cases c40 : q = nI 40
  · rw [if_pos c40]
    exact tn_1448 hF X hX k18 hi h
  rw [if_neg c40]
  by_cases c41 : q = nI 41
  · rw [if_pos c41]
    exact tn_1481 hF X hX k18 hi h
  rw [if_neg c41]
  by_cases c42 : q = nI 42
  · rw [if_pos c42]
    exact tn_1504 hF X hX k18 hi h
  rw [if_neg c42]
  by_cases c43 : q = nI 43
  · rw [if_pos c43]
    exact tn_1537 hF X hX k18 hi h
  rw [if_neg c43]
  by_cases c44 : q = nI 44
  · rw [if_pos c44]
    exact tn_1570 hF X hX k18 hi h
  rw [if_neg c44]
  by_cases c45 : q = nI 45
  · rw [if_pos c45]
    exact tn_1613 hF X hX k18 hi h
  rw [if_neg c45]
  by_cases c46 : q = nI 46
  · rw [if_pos c46]
    exact tn_1646 hF X hX k18 hi h
  rw [if_neg c46]
  by_cases c47 : q = nI 47
  · rw [if_pos c47]
    exact tn_1669 hF X hX k18 hi h
  rw [if_neg c47]
  by_cases c48 : q = nI 48
  · rw [if_pos c48]
    exact tn_1702 hF X hX k18 hi h
  rw [if_neg c48]
  by_cases c49 : q = nI 49
  · rw [if_pos c49]
    exact tn_1735 hF X hX k18 hi h
  rw [if_neg c49]
  by_cases c50 : q = nI 50
  · rw [if_pos c50]
    exact tn_1778 hF X hX k18 hi h
  rw [if_neg c50]
  by_cases c51 : q = nI 51
  · rw [if_pos c51]
    exact tn_1811 hF X hX k18 hi h
  rw [if_neg c51]
  by_cases c52 : q = nI 52
  · rw [if_pos c52]
    exact tn_1834 hF X hX k18 hi h
  rw [if_neg c52]
  by_cases c53 : q = nI 53
  · rw [if_pos c53]
    exact tn_1877 hF X hX k18 hi h
  rw [if_neg c53]
  by_cases c54 : q = nI 54
  · rw [if_pos c54]
    exact tn_1920 hF X hX k18 hi h
  rw [if_neg c54]
  by_cases c55 : q = nI 55
  · rw [if_pos c55]
    exact tn_1943 hF X hX k18 hi h
  rw [if_neg c55]
  by_cases c56 : q = nI 56
  · rw [if_pos c56]
    exact tn_1966 hF X hX k18 hi h
  rw [if_neg c56]
  by_cases c57 : q = nI 57
  · rw [if_pos c57]
    exact tn_1989 hF X hX k18 hi h
  rw [if_neg c57]
  by_cases c58 : q = nI 58
  · rw [if_pos c58]
    exact tn_2032 hF X hX k18 hi h
  rw [if_neg c58]
  by_cases c59 : q = nI 59
  · rw [if_pos c59]
    exact tn_2105 hF X hX k18 hi h
  rw [if_neg c59]
  refine ⟨D, E, ?_, h⟩
  unfold b_law_2168
  rw [nI_add]
theorem tn_all (hF : 10000000000 ≤ F) (X : ev_X) (hX : X.1 ≤ 3072) : ∀ n i f (D : mx_D) (E : mx_E), X.1 ≤ i + n → n < f → i ≤ X.1 + 6 → RL D E → ∃ D2 E2, g_law_18 F X f (nI i) D E = some (nI 1, D2, E2) := by
  intro n
  induction n using Nat.strongRecOn with
  | _ n ih =>
    intro i f D E h1 h2 h3 h
    obtain ⟨f, rfl⟩ : ∃ g, f = g + 1 := ⟨f - 1, by omega⟩
    have es : g_law_18 F X (f + 1) = b_law_18 F X (g_law_18 F X f) := rfl
    rw [es]
    by_cases c : i + 6 ≤ X.1
    · obtain ⟨D2, E2, e1, e2⟩ := tn_18 hF X hX (g_law_18 F X f) c h
      rw [e1]
      by_cases c2 : n < 6
      · exact ih 0 (by omega) (i + 6) f D2 E2 (by omega) (by omega) (by omega) e2
      · exact ih (n - 6) (by omega) (i + 6) f D2 E2 (by omega) (by omega) (by omega) e2
    · unfold b_law_18
      have e0 : nI X.1 - nI 6 < nI i := by
        rw [iI_nI X.1, iI_nI 6, iI_sub, iI_nI i, iI_lt (by omega) (by omega) (by omega) (by omega)]
        omega
      rw [if_pos e0]
      exact ⟨D, E, rfl⟩
theorem tn_law (hF : 10000000000 ≤ F) (X : ev_X) (hX : X.1 ≤ 3072) (h : RL D E) : ∃ D2 E2, g_law F X D E = some (nI 1, D2, E2) := tn_all hF X hX X.1 0 F D E (by omega) (by omega) (by omega) h
end LC
