/-! ===== the law: its frames come to what the picture says ===== -/
def lc_srt : Nat → List (Nat × Instr) → Bool
  | _, [] => true
  | n, (k, _) :: l => Nat.ble n k && lc_srt (k + 1) l
theorem lc_ge : ∀ (l : List (Nat × Instr)) (n : Nat), lc_srt n l = true → ∀ e ∈ l, n ≤ e.1
  | [], _, _, e, he => by cases he
  | (k, i) :: l, n, h, e, he => by
    simp only [lc_srt, Bool.and_eq_true] at h
    have h1 := Nat.le_of_ble_eq_true h.1
    rcases List.mem_cons.mp he with rfl | he
    · exact h1
    · have := lc_ge l (k + 1) h.2 e he
      omega
theorem lc_look : ∀ (l : List (Nat × Instr)) (n : Nat), lc_srt n l = true → ∀ (pc : Nat) (i : Instr), (pc, i) ∈ l → mx_look l pc = some i
  | [], _, _, pc, i, he => by cases he
  | (k, u) :: l, n, h, pc, i, he => by
    simp only [lc_srt, Bool.and_eq_true] at h
    simp only [mx_look]
    rcases List.mem_cons.mp he with e | he
    · cases e
      rw [show Nat.beq k k = true from Nat.beq_refl k]
      rfl
    · have h3 := lc_ge l (k + 1) h.2 _ he
      have h4 : Nat.beq k pc = false := by
        cases hb : Nat.beq k pc
        · rfl
        · have := Nat.eq_of_beq_eq_true hb
          simp only at h3
          omega
      rw [h4]
      exact lc_look l (k + 1) h.2 pc i he
theorem lc_sorted : lc_srt 0 kq_c337 = true := by decide +kernel
theorem gw_n {X : ev_X} {d y : Nat} {Φ : ev_P} {q : kq_Ty} {c : List (Nat × Instr)} (hq : kq_m y = some q) (hs : ∀ pc i, mx_look c pc = some i → mx_look q.2.2.2.2.2 pc = some i) : ∀ (n : Nat) {S S' : mx_S}, ev_sn X c d y n S = some S' → ev X d y S' Φ → ev X d y S Φ
  | 0, S, S', h, k => by
    simp only [ev_sn, Option.some.injEq] at h
    rw [h]
    exact k
  | n + 1, S, S', h, k => by
    simp only [ev_sn] at h
    split at h
    · rename_i i hi
      split at h
      · rename_i S1 hs1
        exact ev_ins hq (hs _ _ hi) hs1 (gw_n hq hs n h k)
      · cases h
    · cases h
def lc_0 : List (Nat × Instr) := kq_c337_0 ++ (kq_c337_1 ++ (kq_c337_2))
theorem lc_s0 : ∀ pc i, mx_look lc_0 pc = some i → mx_look kq_q337.2.2.2.2.2 pc = some i := by
  intro pc i h
  have h1 := mx_look_mem _ _ _ h
  refine lc_look kq_c337 0 lc_sorted pc i ?_
  simp only [lc_0, List.mem_append] at h1
  simp only [kq_c337, List.mem_append]
  rcases h1 with h1 | h1 | h1 <;> simp only [h1, true_or, or_true]
def lc_1 : List (Nat × Instr) := kq_c337_1 ++ (kq_c337_2 ++ (kq_c337_3))
theorem lc_s1 : ∀ pc i, mx_look lc_1 pc = some i → mx_look kq_q337.2.2.2.2.2 pc = some i := by
  intro pc i h
  have h1 := mx_look_mem _ _ _ h
  refine lc_look kq_c337 0 lc_sorted pc i ?_
  simp only [lc_1, List.mem_append] at h1
  simp only [kq_c337, List.mem_append]
  rcases h1 with h1 | h1 | h1 <;> simp only [h1, true_or, or_true]
def lc_2 : List (Nat × Instr) := kq_c337_2 ++ (kq_c337_3 ++ (kq_c337_4))
theorem lc_s2 : ∀ pc i, mx_look lc_2 pc = some i → mx_look kq_q337.2.2.2.2.2 pc = some i := by
  intro pc i h
  have h1 := mx_look_mem _ _ _ h
  refine lc_look kq_c337 0 lc_sorted pc i ?_
  simp only [lc_2, List.mem_append] at h1
  simp only [kq_c337, List.mem_append]
  rcases h1 with h1 | h1 | h1 <;> simp only [h1, true_or, or_true]
def lc_3 : List (Nat × Instr) := kq_c337_3 ++ (kq_c337_4 ++ (kq_c337_5))
theorem lc_s3 : ∀ pc i, mx_look lc_3 pc = some i → mx_look kq_q337.2.2.2.2.2 pc = some i := by
  intro pc i h
  have h1 := mx_look_mem _ _ _ h
  refine lc_look kq_c337 0 lc_sorted pc i ?_
  simp only [lc_3, List.mem_append] at h1
  simp only [kq_c337, List.mem_append]
  rcases h1 with h1 | h1 | h1 <;> simp only [h1, true_or, or_true]
def lc_4 : List (Nat × Instr) := kq_c337_4 ++ (kq_c337_5 ++ (kq_c337_6))
theorem lc_s4 : ∀ pc i, mx_look lc_4 pc = some i → mx_look kq_q337.2.2.2.2.2 pc = some i := by
  intro pc i h
  have h1 := mx_look_mem _ _ _ h
  refine lc_look kq_c337 0 lc_sorted pc i ?_
  simp only [lc_4, List.mem_append] at h1
  simp only [kq_c337, List.mem_append]
  rcases h1 with h1 | h1 | h1 <;> simp only [h1, true_or, or_true]
def lc_5 : List (Nat × Instr) := kq_c337_5 ++ (kq_c337_6 ++ (kq_c337_7))
theorem lc_s5 : ∀ pc i, mx_look lc_5 pc = some i → mx_look kq_q337.2.2.2.2.2 pc = some i := by
  intro pc i h
  have h1 := mx_look_mem _ _ _ h
  refine lc_look kq_c337 0 lc_sorted pc i ?_
  simp only [lc_5, List.mem_append] at h1
  simp only [kq_c337, List.mem_append]
  rcases h1 with h1 | h1 | h1 <;> simp only [h1, true_or, or_true]
def lc_6 : List (Nat × Instr) := kq_c337_6 ++ (kq_c337_7 ++ (kq_c337_8))
theorem lc_s6 : ∀ pc i, mx_look lc_6 pc = some i → mx_look kq_q337.2.2.2.2.2 pc = some i := by
  intro pc i h
  have h1 := mx_look_mem _ _ _ h
  refine lc_look kq_c337 0 lc_sorted pc i ?_
  simp only [lc_6, List.mem_append] at h1
  simp only [kq_c337, List.mem_append]
  rcases h1 with h1 | h1 | h1 <;> simp only [h1, true_or, or_true]
def lc_7 : List (Nat × Instr) := kq_c337_7 ++ (kq_c337_8 ++ (kq_c337_9))
theorem lc_s7 : ∀ pc i, mx_look lc_7 pc = some i → mx_look kq_q337.2.2.2.2.2 pc = some i := by
  intro pc i h
  have h1 := mx_look_mem _ _ _ h
  refine lc_look kq_c337 0 lc_sorted pc i ?_
  simp only [lc_7, List.mem_append] at h1
  simp only [kq_c337, List.mem_append]
  rcases h1 with h1 | h1 | h1 <;> simp only [h1, true_or, or_true]
def lc_8 : List (Nat × Instr) := kq_c337_8 ++ (kq_c337_9 ++ (kq_c337_10))
theorem lc_s8 : ∀ pc i, mx_look lc_8 pc = some i → mx_look kq_q337.2.2.2.2.2 pc = some i := by
  intro pc i h
  have h1 := mx_look_mem _ _ _ h
  refine lc_look kq_c337 0 lc_sorted pc i ?_
  simp only [lc_8, List.mem_append] at h1
  simp only [kq_c337, List.mem_append]
  rcases h1 with h1 | h1 | h1 <;> simp only [h1, true_or, or_true]
def lc_9 : List (Nat × Instr) := kq_c337_9 ++ (kq_c337_10 ++ (kq_c337_11))
theorem lc_s9 : ∀ pc i, mx_look lc_9 pc = some i → mx_look kq_q337.2.2.2.2.2 pc = some i := by
  intro pc i h
  have h1 := mx_look_mem _ _ _ h
  refine lc_look kq_c337 0 lc_sorted pc i ?_
  simp only [lc_9, List.mem_append] at h1
  simp only [kq_c337, List.mem_append]
  rcases h1 with h1 | h1 | h1 <;> simp only [h1, true_or, or_true]
def lc_10 : List (Nat × Instr) := kq_c337_10 ++ (kq_c337_11 ++ (kq_c337_12))
theorem lc_s10 : ∀ pc i, mx_look lc_10 pc = some i → mx_look kq_q337.2.2.2.2.2 pc = some i := by
  intro pc i h
  have h1 := mx_look_mem _ _ _ h
  refine lc_look kq_c337 0 lc_sorted pc i ?_
  simp only [lc_10, List.mem_append] at h1
  simp only [kq_c337, List.mem_append]
  rcases h1 with h1 | h1 | h1 <;> simp only [h1, true_or, or_true]
def lc_11 : List (Nat × Instr) := kq_c337_11 ++ (kq_c337_12 ++ (kq_c337_13))
theorem lc_s11 : ∀ pc i, mx_look lc_11 pc = some i → mx_look kq_q337.2.2.2.2.2 pc = some i := by
  intro pc i h
  have h1 := mx_look_mem _ _ _ h
  refine lc_look kq_c337 0 lc_sorted pc i ?_
  simp only [lc_11, List.mem_append] at h1
  simp only [kq_c337, List.mem_append]
  rcases h1 with h1 | h1 | h1 <;> simp only [h1, true_or, or_true]
def lc_12 : List (Nat × Instr) := kq_c337_12 ++ (kq_c337_13 ++ (kq_c337_14))
theorem lc_s12 : ∀ pc i, mx_look lc_12 pc = some i → mx_look kq_q337.2.2.2.2.2 pc = some i := by
  intro pc i h
  have h1 := mx_look_mem _ _ _ h
  refine lc_look kq_c337 0 lc_sorted pc i ?_
  simp only [lc_12, List.mem_append] at h1
  simp only [kq_c337, List.mem_append]
  rcases h1 with h1 | h1 | h1 <;> simp only [h1, true_or, or_true]
def lc_13 : List (Nat × Instr) := kq_c337_13 ++ (kq_c337_14 ++ (kq_c337_15))
theorem lc_s13 : ∀ pc i, mx_look lc_13 pc = some i → mx_look kq_q337.2.2.2.2.2 pc = some i := by
  intro pc i h
  have h1 := mx_look_mem _ _ _ h
  refine lc_look kq_c337 0 lc_sorted pc i ?_
  simp only [lc_13, List.mem_append] at h1
  simp only [kq_c337, List.mem_append]
  rcases h1 with h1 | h1 | h1 <;> simp only [h1, true_or, or_true]
def lc_14 : List (Nat × Instr) := kq_c337_14 ++ (kq_c337_15 ++ (kq_c337_16))
theorem lc_s14 : ∀ pc i, mx_look lc_14 pc = some i → mx_look kq_q337.2.2.2.2.2 pc = some i := by
  intro pc i h
  have h1 := mx_look_mem _ _ _ h
  refine lc_look kq_c337 0 lc_sorted pc i ?_
  simp only [lc_14, List.mem_append] at h1
  simp only [kq_c337, List.mem_append]
  rcases h1 with h1 | h1 | h1 <;> simp only [h1, true_or, or_true]
def lc_15 : List (Nat × Instr) := kq_c337_15 ++ (kq_c337_16 ++ (kq_c337_17))
theorem lc_s15 : ∀ pc i, mx_look lc_15 pc = some i → mx_look kq_q337.2.2.2.2.2 pc = some i := by
  intro pc i h
  have h1 := mx_look_mem _ _ _ h
  refine lc_look kq_c337 0 lc_sorted pc i ?_
  simp only [lc_15, List.mem_append] at h1
  simp only [kq_c337, List.mem_append]
  rcases h1 with h1 | h1 | h1 <;> simp only [h1, true_or, or_true]
def lc_16 : List (Nat × Instr) := kq_c337_16 ++ (kq_c337_17 ++ (kq_c337_18))
theorem lc_s16 : ∀ pc i, mx_look lc_16 pc = some i → mx_look kq_q337.2.2.2.2.2 pc = some i := by
  intro pc i h
  have h1 := mx_look_mem _ _ _ h
  refine lc_look kq_c337 0 lc_sorted pc i ?_
  simp only [lc_16, List.mem_append] at h1
  simp only [kq_c337, List.mem_append]
  rcases h1 with h1 | h1 | h1 <;> simp only [h1, true_or, or_true]
def lc_17 : List (Nat × Instr) := kq_c337_17 ++ (kq_c337_18 ++ (kq_c337_19))
theorem lc_s17 : ∀ pc i, mx_look lc_17 pc = some i → mx_look kq_q337.2.2.2.2.2 pc = some i := by
  intro pc i h
  have h1 := mx_look_mem _ _ _ h
  refine lc_look kq_c337 0 lc_sorted pc i ?_
  simp only [lc_17, List.mem_append] at h1
  simp only [kq_c337, List.mem_append]
  rcases h1 with h1 | h1 | h1 <;> simp only [h1, true_or, or_true]
def lc_18 : List (Nat × Instr) := kq_c337_18 ++ (kq_c337_19 ++ (kq_c337_20))
theorem lc_s18 : ∀ pc i, mx_look lc_18 pc = some i → mx_look kq_q337.2.2.2.2.2 pc = some i := by
  intro pc i h
  have h1 := mx_look_mem _ _ _ h
  refine lc_look kq_c337 0 lc_sorted pc i ?_
  simp only [lc_18, List.mem_append] at h1
  simp only [kq_c337, List.mem_append]
  rcases h1 with h1 | h1 | h1 <;> simp only [h1, true_or, or_true]
def lc_19 : List (Nat × Instr) := kq_c337_19 ++ (kq_c337_20 ++ (kq_c337_21))
theorem lc_s19 : ∀ pc i, mx_look lc_19 pc = some i → mx_look kq_q337.2.2.2.2.2 pc = some i := by
  intro pc i h
  have h1 := mx_look_mem _ _ _ h
  refine lc_look kq_c337 0 lc_sorted pc i ?_
  simp only [lc_19, List.mem_append] at h1
  simp only [kq_c337, List.mem_append]
  rcases h1 with h1 | h1 | h1 <;> simp only [h1, true_or, or_true]
def lc_20 : List (Nat × Instr) := kq_c337_20 ++ (kq_c337_21 ++ (kq_c337_22))
theorem lc_s20 : ∀ pc i, mx_look lc_20 pc = some i → mx_look kq_q337.2.2.2.2.2 pc = some i := by
  intro pc i h
  have h1 := mx_look_mem _ _ _ h
  refine lc_look kq_c337 0 lc_sorted pc i ?_
  simp only [lc_20, List.mem_append] at h1
  simp only [kq_c337, List.mem_append]
  rcases h1 with h1 | h1 | h1 <;> simp only [h1, true_or, or_true]
def lc_21 : List (Nat × Instr) := kq_c337_21 ++ (kq_c337_22 ++ (kq_c337_23))
theorem lc_s21 : ∀ pc i, mx_look lc_21 pc = some i → mx_look kq_q337.2.2.2.2.2 pc = some i := by
  intro pc i h
  have h1 := mx_look_mem _ _ _ h
  refine lc_look kq_c337 0 lc_sorted pc i ?_
  simp only [lc_21, List.mem_append] at h1
  simp only [kq_c337, List.mem_append]
  rcases h1 with h1 | h1 | h1 <;> simp only [h1, true_or, or_true]
def lc_22 : List (Nat × Instr) := kq_c337_22 ++ (kq_c337_23 ++ (kq_c337_24))
theorem lc_s22 : ∀ pc i, mx_look lc_22 pc = some i → mx_look kq_q337.2.2.2.2.2 pc = some i := by
  intro pc i h
  have h1 := mx_look_mem _ _ _ h
  refine lc_look kq_c337 0 lc_sorted pc i ?_
  simp only [lc_22, List.mem_append] at h1
  simp only [kq_c337, List.mem_append]
  rcases h1 with h1 | h1 | h1 <;> simp only [h1, true_or, or_true]
def lc_23 : List (Nat × Instr) := kq_c337_23 ++ (kq_c337_24 ++ (kq_c337_25))
theorem lc_s23 : ∀ pc i, mx_look lc_23 pc = some i → mx_look kq_q337.2.2.2.2.2 pc = some i := by
  intro pc i h
  have h1 := mx_look_mem _ _ _ h
  refine lc_look kq_c337 0 lc_sorted pc i ?_
  simp only [lc_23, List.mem_append] at h1
  simp only [kq_c337, List.mem_append]
  rcases h1 with h1 | h1 | h1 <;> simp only [h1, true_or, or_true]
def lc_24 : List (Nat × Instr) := kq_c337_24 ++ (kq_c337_25 ++ (kq_c337_26))
theorem lc_s24 : ∀ pc i, mx_look lc_24 pc = some i → mx_look kq_q337.2.2.2.2.2 pc = some i := by
  intro pc i h
  have h1 := mx_look_mem _ _ _ h
  refine lc_look kq_c337 0 lc_sorted pc i ?_
  simp only [lc_24, List.mem_append] at h1
  simp only [kq_c337, List.mem_append]
  rcases h1 with h1 | h1 | h1 <;> simp only [h1, true_or, or_true]
def lc_25 : List (Nat × Instr) := kq_c337_25 ++ (kq_c337_26 ++ (kq_c337_27))
theorem lc_s25 : ∀ pc i, mx_look lc_25 pc = some i → mx_look kq_q337.2.2.2.2.2 pc = some i := by
  intro pc i h
  have h1 := mx_look_mem _ _ _ h
  refine lc_look kq_c337 0 lc_sorted pc i ?_
  simp only [lc_25, List.mem_append] at h1
  simp only [kq_c337, List.mem_append]
  rcases h1 with h1 | h1 | h1 <;> simp only [h1, true_or, or_true]
def lc_26 : List (Nat × Instr) := kq_c337_26 ++ (kq_c337_27 ++ (kq_c337_28))
theorem lc_s26 : ∀ pc i, mx_look lc_26 pc = some i → mx_look kq_q337.2.2.2.2.2 pc = some i := by
  intro pc i h
  have h1 := mx_look_mem _ _ _ h
  refine lc_look kq_c337 0 lc_sorted pc i ?_
  simp only [lc_26, List.mem_append] at h1
  simp only [kq_c337, List.mem_append]
  rcases h1 with h1 | h1 | h1 <;> simp only [h1, true_or, or_true]
def lc_27 : List (Nat × Instr) := kq_c337_27 ++ (kq_c337_28 ++ (kq_c337_29))
theorem lc_s27 : ∀ pc i, mx_look lc_27 pc = some i → mx_look kq_q337.2.2.2.2.2 pc = some i := by
  intro pc i h
  have h1 := mx_look_mem _ _ _ h
  refine lc_look kq_c337 0 lc_sorted pc i ?_
  simp only [lc_27, List.mem_append] at h1
  simp only [kq_c337, List.mem_append]
  rcases h1 with h1 | h1 | h1 <;> simp only [h1, true_or, or_true]
def lc_28 : List (Nat × Instr) := kq_c337_28 ++ (kq_c337_29 ++ (kq_c337_30))
theorem lc_s28 : ∀ pc i, mx_look lc_28 pc = some i → mx_look kq_q337.2.2.2.2.2 pc = some i := by
  intro pc i h
  have h1 := mx_look_mem _ _ _ h
  refine lc_look kq_c337 0 lc_sorted pc i ?_
  simp only [lc_28, List.mem_append] at h1
  simp only [kq_c337, List.mem_append]
  rcases h1 with h1 | h1 | h1 <;> simp only [h1, true_or, or_true]
def lc_29 : List (Nat × Instr) := kq_c337_29 ++ (kq_c337_30 ++ (kq_c337_31))
theorem lc_s29 : ∀ pc i, mx_look lc_29 pc = some i → mx_look kq_q337.2.2.2.2.2 pc = some i := by
  intro pc i h
  have h1 := mx_look_mem _ _ _ h
  refine lc_look kq_c337 0 lc_sorted pc i ?_
  simp only [lc_29, List.mem_append] at h1
  simp only [kq_c337, List.mem_append]
  rcases h1 with h1 | h1 | h1 <;> simp only [h1, true_or, or_true]
def lc_30 : List (Nat × Instr) := kq_c337_30 ++ (kq_c337_31 ++ (kq_c337_32))
theorem lc_s30 : ∀ pc i, mx_look lc_30 pc = some i → mx_look kq_q337.2.2.2.2.2 pc = some i := by
  intro pc i h
  have h1 := mx_look_mem _ _ _ h
  refine lc_look kq_c337 0 lc_sorted pc i ?_
  simp only [lc_30, List.mem_append] at h1
  simp only [kq_c337, List.mem_append]
  rcases h1 with h1 | h1 | h1 <;> simp only [h1, true_or, or_true]
def lc_31 : List (Nat × Instr) := kq_c337_31 ++ (kq_c337_32 ++ (kq_c337_33))
theorem lc_s31 : ∀ pc i, mx_look lc_31 pc = some i → mx_look kq_q337.2.2.2.2.2 pc = some i := by
  intro pc i h
  have h1 := mx_look_mem _ _ _ h
  refine lc_look kq_c337 0 lc_sorted pc i ?_
  simp only [lc_31, List.mem_append] at h1
  simp only [kq_c337, List.mem_append]
  rcases h1 with h1 | h1 | h1 <;> simp only [h1, true_or, or_true]
def lc_32 : List (Nat × Instr) := kq_c337_32 ++ (kq_c337_33 ++ (kq_c337_34))
theorem lc_s32 : ∀ pc i, mx_look lc_32 pc = some i → mx_look kq_q337.2.2.2.2.2 pc = some i := by
  intro pc i h
  have h1 := mx_look_mem _ _ _ h
  refine lc_look kq_c337 0 lc_sorted pc i ?_
  simp only [lc_32, List.mem_append] at h1
  simp only [kq_c337, List.mem_append]
  rcases h1 with h1 | h1 | h1 <;> simp only [h1, true_or, or_true]
def lc_33 : List (Nat × Instr) := kq_c337_33 ++ (kq_c337_34 ++ (kq_c337_35))
theorem lc_s33 : ∀ pc i, mx_look lc_33 pc = some i → mx_look kq_q337.2.2.2.2.2 pc = some i := by
  intro pc i h
  have h1 := mx_look_mem _ _ _ h
  refine lc_look kq_c337 0 lc_sorted pc i ?_
  simp only [lc_33, List.mem_append] at h1
  simp only [kq_c337, List.mem_append]
  rcases h1 with h1 | h1 | h1 <;> simp only [h1, true_or, or_true]
def lc_34 : List (Nat × Instr) := kq_c337_34 ++ (kq_c337_35 ++ (kq_c337_36))
theorem lc_s34 : ∀ pc i, mx_look lc_34 pc = some i → mx_look kq_q337.2.2.2.2.2 pc = some i := by
  intro pc i h
  have h1 := mx_look_mem _ _ _ h
  refine lc_look kq_c337 0 lc_sorted pc i ?_
  simp only [lc_34, List.mem_append] at h1
  simp only [kq_c337, List.mem_append]
  rcases h1 with h1 | h1 | h1 <;> simp only [h1, true_or, or_true]
def lc_35 : List (Nat × Instr) := kq_c337_35 ++ (kq_c337_36 ++ (kq_c337_37))
theorem lc_s35 : ∀ pc i, mx_look lc_35 pc = some i → mx_look kq_q337.2.2.2.2.2 pc = some i := by
  intro pc i h
  have h1 := mx_look_mem _ _ _ h
  refine lc_look kq_c337 0 lc_sorted pc i ?_
  simp only [lc_35, List.mem_append] at h1
  simp only [kq_c337, List.mem_append]
  rcases h1 with h1 | h1 | h1 <;> simp only [h1, true_or, or_true]
def lc_36 : List (Nat × Instr) := kq_c337_36 ++ (kq_c337_37 ++ (kq_c337_38))
theorem lc_s36 : ∀ pc i, mx_look lc_36 pc = some i → mx_look kq_q337.2.2.2.2.2 pc = some i := by
  intro pc i h
  have h1 := mx_look_mem _ _ _ h
  refine lc_look kq_c337 0 lc_sorted pc i ?_
  simp only [lc_36, List.mem_append] at h1
  simp only [kq_c337, List.mem_append]
  rcases h1 with h1 | h1 | h1 <;> simp only [h1, true_or, or_true]
def lc_37 : List (Nat × Instr) := kq_c337_37 ++ (kq_c337_38)
theorem lc_s37 : ∀ pc i, mx_look lc_37 pc = some i → mx_look kq_q337.2.2.2.2.2 pc = some i := by
  intro pc i h
  have h1 := mx_look_mem _ _ _ h
  refine lc_look kq_c337 0 lc_sorted pc i ?_
  simp only [lc_37, List.mem_append] at h1
  simp only [kq_c337, List.mem_append]
  rcases h1 with h1 | h1 <;> simp only [h1, true_or, or_true]
def lc_38 : List (Nat × Instr) := kq_c337_38
theorem lc_s38 : ∀ pc i, mx_look lc_38 pc = some i → mx_look kq_q337.2.2.2.2.2 pc = some i := by
  intro pc i h
  have h1 := mx_look_mem _ _ _ h
  refine lc_look kq_c337 0 lc_sorted pc i ?_
  simp only [lc_38, List.mem_append] at h1
  simp only [kq_c337, List.mem_append]
  simp only [h1, or_true]
set_option maxRecDepth 100000 in
set_option maxHeartbeats 4000000 in
theorem tb_law_2168 (X : ev_X) (F : Nat) (d : Nat) (hd : 105 ≤ d + 1) (k18 : Int32 → mx_D → mx_E → Option (Int32 × mx_D × mx_E)) (K18 : ∀ (l3 : Int32) (D : mx_D) (E : mx_E) (v : Int32 × mx_D × mx_E), k18 l3 D E = some v → ev X (d + 1) 337 (18, [some (.ref 2001), some (.ref 0), some (.ref 116), some (.int l3)], [], D, E) (qR (some (.int v.1)) v.2.1 v.2.2)) (l3 : Int32) (D : mx_D) (E : mx_E) (v : Int32 × mx_D × mx_E) (h : b_law_2168 F X k18 l3 D E = some v) : ev X (d + 1) 337 (2168, [some (.ref 2001), some (.ref 0), some (.ref 116), some (.int l3)], [], D, E) (qR (some (.int v.1)) v.2.1 v.2.2) := by
  have hq : kq_m 337 = some kq_q337 := rfl
  unfold b_law_2168 at h
  have hs := lc_s38
  refine gw_n hq hs 2 (S' := (18, [some (.ref 2001), some (.ref 0), some (.ref 116), some (.int (l3 + (nI 6)))], [], D, E)) rfl ?_
  exact gv_w (K18 _ _ _ _ h) (And.intro rfl (And.intro rfl (And.intro rfl (And.intro rfl trivial))))
set_option maxRecDepth 100000 in
set_option maxHeartbeats 4000000 in
theorem tb_law_288 (X : ev_X) (F : Nat) (d : Nat) (hd : 105 ≤ d + 1) (k18 : Int32 → mx_D → mx_E → Option (Int32 × mx_D × mx_E)) (K18 : ∀ (l3 : Int32) (D : mx_D) (E : mx_E) (v : Int32 × mx_D × mx_E), k18 l3 D E = some v → ev X (d + 1) 337 (18, [some (.ref 2001), some (.ref 0), some (.ref 116), some (.int l3)], [], D, E) (qR (some (.int v.1)) v.2.1 v.2.2)) (l3 : Int32) (D : mx_D) (E : mx_E) (v : Int32 × mx_D × mx_E) (h : b_law_288 F X k18 l3 D E = some v) : ev X (d + 1) 337 (288, [some (.ref 2001), some (.ref 0), some (.ref 116), some (.int l3)], [], D, E) (qR (some (.int v.1)) v.2.1 v.2.2) := by
  have hq : kq_m 337 = some kq_q337 := rfl
  unfold b_law_288 at h
  have hs := lc_s0
  refine gw_n hq hs 5 (S' := (293, [some (.ref 2001), some (.ref 0), some (.ref 116), some (.int l3)], [.int (l3 + (nI 1)), .ref 2001, .ref 0], D, E)) rfl ?_
  refine gv_ix hq (hs _ _ rfl) rfl h 294 rfl (fun h => ?_)
  refine gw_n hq hs 4 (S' := (298, [some (.ref 2001), some (.ref 0), some (.ref 116), some (.int l3)], [.int (l3 + (nI 2)), .ref 2001, .int (X.2 ((l3 + (nI 1))).toNatClampNeg), .ref 0], D, E)) rfl ?_
  refine gv_ix hq (hs _ _ rfl) rfl h 299 rfl (fun h => ?_)
  refine gw_n hq hs 4 (S' := (303, [some (.ref 2001), some (.ref 0), some (.ref 116), some (.int l3)], [.int (l3 + (nI 3)), .ref 2001, .int (X.2 ((l3 + (nI 2))).toNatClampNeg), .int (X.2 ((l3 + (nI 1))).toNatClampNeg), .ref 0], D, E)) rfl ?_
  refine gv_ix hq (hs _ _ rfl) rfl h 304 rfl (fun h => ?_)
  refine gw_n hq hs 4 (S' := (308, [some (.ref 2001), some (.ref 0), some (.ref 116), some (.int l3)], [.int (l3 + (nI 4)), .ref 2001, .int (X.2 ((l3 + (nI 3))).toNatClampNeg), .int (X.2 ((l3 + (nI 2))).toNatClampNeg), .int (X.2 ((l3 + (nI 1))).toNatClampNeg), .ref 0], D, E)) rfl ?_
  refine gv_ix hq (hs _ _ rfl) rfl h 309 rfl (fun h => ?_)
  refine gw_n hq hs 4 (S' := (313, [some (.ref 2001), some (.ref 0), some (.ref 116), some (.int l3)], [.int (l3 + (nI 5)), .ref 2001, .int (X.2 ((l3 + (nI 4))).toNatClampNeg), .int (X.2 ((l3 + (nI 3))).toNatClampNeg), .int (X.2 ((l3 + (nI 2))).toNatClampNeg), .int (X.2 ((l3 + (nI 1))).toNatClampNeg), .ref 0], D, E)) rfl ?_
  refine gv_ix hq (hs _ _ rfl) rfl h 314 rfl (fun h => ?_)
  obtain ⟨r1, h1, h⟩ := Option.bind_eq_some_iff.mp h
  refine gv_d hq (hs _ _ rfl) rfl rfl rfl rfl (gv_dd (by omega) (t_X_feed X F (d - 1) (by omega) E _ _ _ _ _ _ _ h1)) (S' := (317, [some (.ref 2001), some (.ref 0), some (.ref 116), some (.int l3)], [.int r1.1], r1.2, E)) rfl ?_
  refine gw_n hq hs 5 (S' := (322, [some (.ref 2001), some (.ref 0), some (.ref 116), some (.int l3)], [.int (l3 + (nI 1)), .ref 2001, .ref 116, .int r1.1], r1.2, E)) rfl ?_
  refine gv_ix hq (hs _ _ rfl) rfl h 323 rfl (fun h => ?_)
  refine gw_n hq hs 4 (S' := (327, [some (.ref 2001), some (.ref 0), some (.ref 116), some (.int l3)], [.int (l3 + (nI 2)), .ref 2001, .int (X.2 ((l3 + (nI 1))).toNatClampNeg), .ref 116, .int r1.1], r1.2, E)) rfl ?_
  refine gv_ix hq (hs _ _ rfl) rfl h 328 rfl (fun h => ?_)
  refine gw_n hq hs 4 (S' := (332, [some (.ref 2001), some (.ref 0), some (.ref 116), some (.int l3)], [.int (l3 + (nI 3)), .ref 2001, .int (X.2 ((l3 + (nI 2))).toNatClampNeg), .int (X.2 ((l3 + (nI 1))).toNatClampNeg), .ref 116, .int r1.1], r1.2, E)) rfl ?_
  refine gv_ix hq (hs _ _ rfl) rfl h 333 rfl (fun h => ?_)
  refine gw_n hq hs 4 (S' := (337, [some (.ref 2001), some (.ref 0), some (.ref 116), some (.int l3)], [.int (l3 + (nI 4)), .ref 2001, .int (X.2 ((l3 + (nI 3))).toNatClampNeg), .int (X.2 ((l3 + (nI 2))).toNatClampNeg), .int (X.2 ((l3 + (nI 1))).toNatClampNeg), .ref 116, .int r1.1], r1.2, E)) rfl ?_
  refine gv_ix hq (hs _ _ rfl) rfl h 338 rfl (fun h => ?_)
  refine gw_n hq hs 4 (S' := (342, [some (.ref 2001), some (.ref 0), some (.ref 116), some (.int l3)], [.int (l3 + (nI 5)), .ref 2001, .int (X.2 ((l3 + (nI 4))).toNatClampNeg), .int (X.2 ((l3 + (nI 3))).toNatClampNeg), .int (X.2 ((l3 + (nI 2))).toNatClampNeg), .int (X.2 ((l3 + (nI 1))).toNatClampNeg), .ref 116, .int r1.1], r1.2, E)) rfl ?_
  refine gv_ix hq (hs _ _ rfl) rfl h 343 rfl (fun h => ?_)
  obtain ⟨r2, h1, h⟩ := Option.bind_eq_some_iff.mp h
  refine gv_d hq (hs _ _ rfl) rfl rfl rfl rfl ((t_M_feed X F d E _ _ _ _ _ _ _ h1)) (S' := (346, [some (.ref 2001), some (.ref 0), some (.ref 116), some (.int l3)], [.int r2.1, .int r1.1], r2.2, E)) rfl ?_
  refine gv_b hq (hs _ _ rfl) h 2168 349 rfl rfl rfl (fun h => ?_) (fun h => ?_)
  · exact gv_w (tb_law_2168 X F d hd k18 K18 _ _ _ _ h) (And.intro rfl (And.intro rfl (And.intro rfl (And.intro rfl trivial))))
  · refine gw_n hq hs 1 (S' := (350, [some (.ref 2001), some (.ref 0), some (.ref 116), some (.int l3)], [.int (nI 0)], r2.2, E)) rfl ?_
    cases h
    exact ev_ret hq (hs _ _ rfl) rfl ⟨rfl, rfl, rfl⟩
set_option maxRecDepth 100000 in
set_option maxHeartbeats 4000000 in
theorem tb_law_351 (X : ev_X) (F : Nat) (d : Nat) (hd : 105 ≤ d + 1) (k18 : Int32 → mx_D → mx_E → Option (Int32 × mx_D × mx_E)) (K18 : ∀ (l3 : Int32) (D : mx_D) (E : mx_E) (v : Int32 × mx_D × mx_E), k18 l3 D E = some v → ev X (d + 1) 337 (18, [some (.ref 2001), some (.ref 0), some (.ref 116), some (.int l3)], [], D, E) (qR (some (.int v.1)) v.2.1 v.2.2)) (l3 : Int32) (D : mx_D) (E : mx_E) (v : Int32 × mx_D × mx_E) (h : b_law_351 F X k18 l3 D E = some v) : ev X (d + 1) 337 (351, [some (.ref 2001), some (.ref 0), some (.ref 116), some (.int l3)], [], D, E) (qR (some (.int v.1)) v.2.1 v.2.2) := by
  have hq : kq_m 337 = some kq_q337 := rfl
  unfold b_law_351 at h
  have hs := lc_s1
  refine gw_n hq hs 5 (S' := (356, [some (.ref 2001), some (.ref 0), some (.ref 116), some (.int l3)], [.int (l3 + (nI 1)), .ref 2001, .ref 0], D, E)) rfl ?_
  refine gv_ix hq (hs _ _ rfl) rfl h 357 rfl (fun h => ?_)
  refine gv_d hq (hs _ _ rfl) rfl rfl rfl rfl ((t_X_end X d E _ _ _ rfl)) (S' := (360, [some (.ref 2001), some (.ref 0), some (.ref 116), some (.int l3)], [.int (g_X_end (X.2 ((l3 + (nI 1))).toNatClampNeg) D).1], (g_X_end (X.2 ((l3 + (nI 1))).toNatClampNeg) D).2, E)) rfl ?_
  refine gw_n hq hs 5 (S' := (365, [some (.ref 2001), some (.ref 0), some (.ref 116), some (.int l3)], [.int (l3 + (nI 1)), .ref 2001, .ref 116, .int (g_X_end (X.2 ((l3 + (nI 1))).toNatClampNeg) D).1], (g_X_end (X.2 ((l3 + (nI 1))).toNatClampNeg) D).2, E)) rfl ?_
  refine gv_ix hq (hs _ _ rfl) rfl h 366 rfl (fun h => ?_)
  refine gv_d hq (hs _ _ rfl) rfl rfl rfl rfl (gv_dd (by omega) (t_M_end X (d - 1) (by omega) E _ _ _ rfl)) (S' := (369, [some (.ref 2001), some (.ref 0), some (.ref 116), some (.int l3)], [.int (g_M_end (X.2 ((l3 + (nI 1))).toNatClampNeg) (g_X_end (X.2 ((l3 + (nI 1))).toNatClampNeg) D).2).1, .int (g_X_end (X.2 ((l3 + (nI 1))).toNatClampNeg) D).1], (g_M_end (X.2 ((l3 + (nI 1))).toNatClampNeg) (g_X_end (X.2 ((l3 + (nI 1))).toNatClampNeg) D).2).2, E)) rfl ?_
  refine gv_b hq (hs _ _ rfl) h 2168 372 rfl rfl rfl (fun h => ?_) (fun h => ?_)
  · exact gv_w (tb_law_2168 X F d hd k18 K18 _ _ _ _ h) (And.intro rfl (And.intro rfl (And.intro rfl (And.intro rfl trivial))))
  · refine gw_n hq hs 1 (S' := (373, [some (.ref 2001), some (.ref 0), some (.ref 116), some (.int l3)], [.int (nI 0)], (g_M_end (X.2 ((l3 + (nI 1))).toNatClampNeg) (g_X_end (X.2 ((l3 + (nI 1))).toNatClampNeg) D).2).2, E)) rfl ?_
    cases h
    exact ev_ret hq (hs _ _ rfl) rfl ⟨rfl, rfl, rfl⟩
set_option maxRecDepth 100000 in
set_option maxHeartbeats 4000000 in
theorem tb_law_374 (X : ev_X) (F : Nat) (d : Nat) (hd : 105 ≤ d + 1) (k18 : Int32 → mx_D → mx_E → Option (Int32 × mx_D × mx_E)) (K18 : ∀ (l3 : Int32) (D : mx_D) (E : mx_E) (v : Int32 × mx_D × mx_E), k18 l3 D E = some v → ev X (d + 1) 337 (18, [some (.ref 2001), some (.ref 0), some (.ref 116), some (.int l3)], [], D, E) (qR (some (.int v.1)) v.2.1 v.2.2)) (l3 : Int32) (D : mx_D) (E : mx_E) (v : Int32 × mx_D × mx_E) (h : b_law_374 F X k18 l3 D E = some v) : ev X (d + 1) 337 (374, [some (.ref 2001), some (.ref 0), some (.ref 116), some (.int l3)], [], D, E) (qR (some (.int v.1)) v.2.1 v.2.2) := by
  have hq : kq_m 337 = some kq_q337 := rfl
  unfold b_law_374 at h
  have hs := lc_s2
  refine gw_n hq hs 1 (S' := (375, [some (.ref 2001), some (.ref 0), some (.ref 116), some (.int l3)], [.ref 0], D, E)) rfl ?_
  obtain ⟨r3, h1, h⟩ := Option.bind_eq_some_iff.mp h
  refine gv_d hq (hs _ _ rfl) rfl rfl rfl rfl (gv_dd (by omega) (t_X_church X F (d - 1) (by omega) E _ _ h1)) (S' := (378, [some (.ref 2001), some (.ref 0), some (.ref 116), some (.int l3)], [.int r3.1], r3.2, E)) rfl ?_
  refine gw_n hq hs 1 (S' := (379, [some (.ref 2001), some (.ref 0), some (.ref 116), some (.int l3)], [.ref 116, .int r3.1], r3.2, E)) rfl ?_
  obtain ⟨r4, h1, h⟩ := Option.bind_eq_some_iff.mp h
  refine gv_d hq (hs _ _ rfl) rfl rfl rfl rfl (gv_dd (by omega) (t_M_church X F (d - 1) (by omega) E _ _ h1)) (S' := (382, [some (.ref 2001), some (.ref 0), some (.ref 116), some (.int l3)], [.int r4.1, .int r3.1], r4.2, E)) rfl ?_
  refine gv_b hq (hs _ _ rfl) h 2168 385 rfl rfl rfl (fun h => ?_) (fun h => ?_)
  · exact gv_w (tb_law_2168 X F d hd k18 K18 _ _ _ _ h) (And.intro rfl (And.intro rfl (And.intro rfl (And.intro rfl trivial))))
  · refine gw_n hq hs 1 (S' := (386, [some (.ref 2001), some (.ref 0), some (.ref 116), some (.int l3)], [.int (nI 0)], r4.2, E)) rfl ?_
    cases h
    exact ev_ret hq (hs _ _ rfl) rfl ⟨rfl, rfl, rfl⟩
set_option maxRecDepth 100000 in
set_option maxHeartbeats 4000000 in
theorem tb_law_387 (X : ev_X) (F : Nat) (d : Nat) (hd : 105 ≤ d + 1) (k18 : Int32 → mx_D → mx_E → Option (Int32 × mx_D × mx_E)) (K18 : ∀ (l3 : Int32) (D : mx_D) (E : mx_E) (v : Int32 × mx_D × mx_E), k18 l3 D E = some v → ev X (d + 1) 337 (18, [some (.ref 2001), some (.ref 0), some (.ref 116), some (.int l3)], [], D, E) (qR (some (.int v.1)) v.2.1 v.2.2)) (l3 : Int32) (D : mx_D) (E : mx_E) (v : Int32 × mx_D × mx_E) (h : b_law_387 F X k18 l3 D E = some v) : ev X (d + 1) 337 (387, [some (.ref 2001), some (.ref 0), some (.ref 116), some (.int l3)], [], D, E) (qR (some (.int v.1)) v.2.1 v.2.2) := by
  have hq : kq_m 337 = some kq_q337 := rfl
  unfold b_law_387 at h
  have hs := lc_s2
  refine gw_n hq hs 5 (S' := (392, [some (.ref 2001), some (.ref 0), some (.ref 116), some (.int l3)], [.int (l3 + (nI 1)), .ref 2001, .ref 0], D, E)) rfl ?_
  refine gv_ix hq (hs _ _ rfl) rfl h 393 rfl (fun h => ?_)
  refine gv_d hq (hs _ _ rfl) rfl rfl rfl rfl ((t_X_fault X d D E _ _ rfl)) (S' := (396, [some (.ref 2001), some (.ref 0), some (.ref 116), some (.int l3)], [.int (g_X_fault D (X.2 ((l3 + (nI 1))).toNatClampNeg))], D, E)) rfl ?_
  refine gw_n hq hs 5 (S' := (401, [some (.ref 2001), some (.ref 0), some (.ref 116), some (.int l3)], [.int (l3 + (nI 1)), .ref 2001, .ref 116, .int (g_X_fault D (X.2 ((l3 + (nI 1))).toNatClampNeg))], D, E)) rfl ?_
  refine gv_ix hq (hs _ _ rfl) rfl h 402 rfl (fun h => ?_)
  refine gv_d hq (hs _ _ rfl) rfl rfl rfl rfl ((t_M_fault X d D E _ _ rfl)) (S' := (405, [some (.ref 2001), some (.ref 0), some (.ref 116), some (.int l3)], [.int (g_M_fault D (X.2 ((l3 + (nI 1))).toNatClampNeg)), .int (g_X_fault D (X.2 ((l3 + (nI 1))).toNatClampNeg))], D, E)) rfl ?_
  refine gv_b hq (hs _ _ rfl) h 2168 408 rfl rfl rfl (fun h => ?_) (fun h => ?_)
  · exact gv_w (tb_law_2168 X F d hd k18 K18 _ _ _ _ h) (And.intro rfl (And.intro rfl (And.intro rfl (And.intro rfl trivial))))
  · refine gw_n hq hs 1 (S' := (409, [some (.ref 2001), some (.ref 0), some (.ref 116), some (.int l3)], [.int (nI 0)], D, E)) rfl ?_
    cases h
    exact ev_ret hq (hs _ _ rfl) rfl ⟨rfl, rfl, rfl⟩
set_option maxRecDepth 100000 in
set_option maxHeartbeats 4000000 in
theorem tb_law_410 (X : ev_X) (F : Nat) (d : Nat) (hd : 105 ≤ d + 1) (k18 : Int32 → mx_D → mx_E → Option (Int32 × mx_D × mx_E)) (K18 : ∀ (l3 : Int32) (D : mx_D) (E : mx_E) (v : Int32 × mx_D × mx_E), k18 l3 D E = some v → ev X (d + 1) 337 (18, [some (.ref 2001), some (.ref 0), some (.ref 116), some (.int l3)], [], D, E) (qR (some (.int v.1)) v.2.1 v.2.2)) (l3 : Int32) (D : mx_D) (E : mx_E) (v : Int32 × mx_D × mx_E) (h : b_law_410 F X k18 l3 D E = some v) : ev X (d + 1) 337 (410, [some (.ref 2001), some (.ref 0), some (.ref 116), some (.int l3)], [], D, E) (qR (some (.int v.1)) v.2.1 v.2.2) := by
  have hq : kq_m 337 = some kq_q337 := rfl
  unfold b_law_410 at h
  have hs := lc_s3
  refine gw_n hq hs 5 (S' := (415, [some (.ref 2001), some (.ref 0), some (.ref 116), some (.int l3)], [.int (l3 + (nI 1)), .ref 2001, .ref 0], D, E)) rfl ?_
  refine gv_ix hq (hs _ _ rfl) rfl h 416 rfl (fun h => ?_)
  refine gw_n hq hs 4 (S' := (420, [some (.ref 2001), some (.ref 0), some (.ref 116), some (.int l3)], [.int (l3 + (nI 2)), .ref 2001, .int (X.2 ((l3 + (nI 1))).toNatClampNeg), .ref 0], D, E)) rfl ?_
  refine gv_ix hq (hs _ _ rfl) rfl h 421 rfl (fun h => ?_)
  obtain ⟨r5, h1, h⟩ := Option.bind_eq_some_iff.mp h
  refine gv_d hq (hs _ _ rfl) rfl rfl rfl rfl (gv_dd (by omega) (t_X_pew X F (d - 1) (by omega) D E _ _ _ h1)) (S' := (424, [some (.ref 2001), some (.ref 0), some (.ref 116), some (.int l3)], [.int r5], D, E)) rfl ?_
  refine gw_n hq hs 5 (S' := (429, [some (.ref 2001), some (.ref 0), some (.ref 116), some (.int l3)], [.int (l3 + (nI 1)), .ref 2001, .ref 116, .int r5], D, E)) rfl ?_
  refine gv_ix hq (hs _ _ rfl) rfl h 430 rfl (fun h => ?_)
  refine gw_n hq hs 4 (S' := (434, [some (.ref 2001), some (.ref 0), some (.ref 116), some (.int l3)], [.int (l3 + (nI 2)), .ref 2001, .int (X.2 ((l3 + (nI 1))).toNatClampNeg), .ref 116, .int r5], D, E)) rfl ?_
  refine gv_ix hq (hs _ _ rfl) rfl h 435 rfl (fun h => ?_)
  obtain ⟨r6, h1, h⟩ := Option.bind_eq_some_iff.mp h
  refine gv_d hq (hs _ _ rfl) rfl rfl rfl rfl (gv_dd (by omega) (t_M_pew X F (d - 1) (by omega) D E _ _ _ h1)) (S' := (438, [some (.ref 2001), some (.ref 0), some (.ref 116), some (.int l3)], [.int r6, .int r5], D, E)) rfl ?_
  refine gv_b hq (hs _ _ rfl) h 2168 441 rfl rfl rfl (fun h => ?_) (fun h => ?_)
  · exact gv_w (tb_law_2168 X F d hd k18 K18 _ _ _ _ h) (And.intro rfl (And.intro rfl (And.intro rfl (And.intro rfl trivial))))
  · refine gw_n hq hs 1 (S' := (442, [some (.ref 2001), some (.ref 0), some (.ref 116), some (.int l3)], [.int (nI 0)], D, E)) rfl ?_
    cases h
    exact ev_ret hq (hs _ _ rfl) rfl ⟨rfl, rfl, rfl⟩
set_option maxRecDepth 100000 in
set_option maxHeartbeats 4000000 in
theorem tb_law_443 (X : ev_X) (F : Nat) (d : Nat) (hd : 105 ≤ d + 1) (k18 : Int32 → mx_D → mx_E → Option (Int32 × mx_D × mx_E)) (K18 : ∀ (l3 : Int32) (D : mx_D) (E : mx_E) (v : Int32 × mx_D × mx_E), k18 l3 D E = some v → ev X (d + 1) 337 (18, [some (.ref 2001), some (.ref 0), some (.ref 116), some (.int l3)], [], D, E) (qR (some (.int v.1)) v.2.1 v.2.2)) (l3 : Int32) (D : mx_D) (E : mx_E) (v : Int32 × mx_D × mx_E) (h : b_law_443 F X k18 l3 D E = some v) : ev X (d + 1) 337 (443, [some (.ref 2001), some (.ref 0), some (.ref 116), some (.int l3)], [], D, E) (qR (some (.int v.1)) v.2.1 v.2.2) := by
  have hq : kq_m 337 = some kq_q337 := rfl
  unfold b_law_443 at h
  have hs := lc_s3
  refine gw_n hq hs 5 (S' := (448, [some (.ref 2001), some (.ref 0), some (.ref 116), some (.int l3)], [.int (l3 + (nI 1)), .ref 2001, .ref 0], D, E)) rfl ?_
  refine gv_ix hq (hs _ _ rfl) rfl h 449 rfl (fun h => ?_)
  refine gw_n hq hs 4 (S' := (453, [some (.ref 2001), some (.ref 0), some (.ref 116), some (.int l3)], [.int (l3 + (nI 2)), .ref 2001, .int (X.2 ((l3 + (nI 1))).toNatClampNeg), .ref 0], D, E)) rfl ?_
  refine gv_ix hq (hs _ _ rfl) rfl h 454 rfl (fun h => ?_)
  obtain ⟨r7, h1, h⟩ := Option.bind_eq_some_iff.mp h
  refine gv_d hq (hs _ _ rfl) rfl rfl rfl rfl (gv_dd (by omega) (t_X_floor X (d - 1) (by omega) D E _ _ _ h1)) (S' := (457, [some (.ref 2001), some (.ref 0), some (.ref 116), some (.int l3)], [.int r7], D, E)) rfl ?_
  refine gw_n hq hs 5 (S' := (462, [some (.ref 2001), some (.ref 0), some (.ref 116), some (.int l3)], [.int (l3 + (nI 1)), .ref 2001, .ref 116, .int r7], D, E)) rfl ?_
  refine gv_ix hq (hs _ _ rfl) rfl h 463 rfl (fun h => ?_)
  refine gw_n hq hs 4 (S' := (467, [some (.ref 2001), some (.ref 0), some (.ref 116), some (.int l3)], [.int (l3 + (nI 2)), .ref 2001, .int (X.2 ((l3 + (nI 1))).toNatClampNeg), .ref 116, .int r7], D, E)) rfl ?_
  refine gv_ix hq (hs _ _ rfl) rfl h 468 rfl (fun h => ?_)
  obtain ⟨r8, h1, h⟩ := Option.bind_eq_some_iff.mp h
  refine gv_d hq (hs _ _ rfl) rfl rfl rfl rfl (gv_dd (by omega) (t_M_floor X (d - 1) (by omega) D E _ _ _ h1)) (S' := (471, [some (.ref 2001), some (.ref 0), some (.ref 116), some (.int l3)], [.int r8, .int r7], D, E)) rfl ?_
  refine gv_b hq (hs _ _ rfl) h 2168 474 rfl rfl rfl (fun h => ?_) (fun h => ?_)
  · exact gv_w (tb_law_2168 X F d hd k18 K18 _ _ _ _ h) (And.intro rfl (And.intro rfl (And.intro rfl (And.intro rfl trivial))))
  · refine gw_n hq hs 1 (S' := (475, [some (.ref 2001), some (.ref 0), some (.ref 116), some (.int l3)], [.int (nI 0)], D, E)) rfl ?_
    cases h
    exact ev_ret hq (hs _ _ rfl) rfl ⟨rfl, rfl, rfl⟩
set_option maxRecDepth 100000 in
set_option maxHeartbeats 4000000 in
theorem tb_law_476 (X : ev_X) (F : Nat) (d : Nat) (hd : 105 ≤ d + 1) (k18 : Int32 → mx_D → mx_E → Option (Int32 × mx_D × mx_E)) (K18 : ∀ (l3 : Int32) (D : mx_D) (E : mx_E) (v : Int32 × mx_D × mx_E), k18 l3 D E = some v → ev X (d + 1) 337 (18, [some (.ref 2001), some (.ref 0), some (.ref 116), some (.int l3)], [], D, E) (qR (some (.int v.1)) v.2.1 v.2.2)) (l3 : Int32) (D : mx_D) (E : mx_E) (v : Int32 × mx_D × mx_E) (h : b_law_476 F X k18 l3 D E = some v) : ev X (d + 1) 337 (476, [some (.ref 2001), some (.ref 0), some (.ref 116), some (.int l3)], [], D, E) (qR (some (.int v.1)) v.2.1 v.2.2) := by
  have hq : kq_m 337 = some kq_q337 := rfl
  unfold b_law_476 at h
  have hs := lc_s4
  refine gw_n hq hs 5 (S' := (481, [some (.ref 2001), some (.ref 0), some (.ref 116), some (.int l3)], [.int (l3 + (nI 1)), .ref 2001, .ref 0], D, E)) rfl ?_
  refine gv_ix hq (hs _ _ rfl) rfl h 482 rfl (fun h => ?_)
  refine gw_n hq hs 4 (S' := (486, [some (.ref 2001), some (.ref 0), some (.ref 116), some (.int l3)], [.int (l3 + (nI 2)), .ref 2001, .int (X.2 ((l3 + (nI 1))).toNatClampNeg), .ref 0], D, E)) rfl ?_
  refine gv_ix hq (hs _ _ rfl) rfl h 487 rfl (fun h => ?_)
  obtain ⟨r9, h1, h⟩ := Option.bind_eq_some_iff.mp h
  refine gv_d hq (hs _ _ rfl) rfl rfl rfl rfl (gv_dd (by omega) (t_X_who X F (d - 1) (by omega) D E _ _ _ h1)) (S' := (490, [some (.ref 2001), some (.ref 0), some (.ref 116), some (.int l3)], [.int r9], D, E)) rfl ?_
  refine gw_n hq hs 5 (S' := (495, [some (.ref 2001), some (.ref 0), some (.ref 116), some (.int l3)], [.int (l3 + (nI 1)), .ref 2001, .ref 116, .int r9], D, E)) rfl ?_
  refine gv_ix hq (hs _ _ rfl) rfl h 496 rfl (fun h => ?_)
  refine gw_n hq hs 4 (S' := (500, [some (.ref 2001), some (.ref 0), some (.ref 116), some (.int l3)], [.int (l3 + (nI 2)), .ref 2001, .int (X.2 ((l3 + (nI 1))).toNatClampNeg), .ref 116, .int r9], D, E)) rfl ?_
  refine gv_ix hq (hs _ _ rfl) rfl h 501 rfl (fun h => ?_)
  obtain ⟨r10, h1, h⟩ := Option.bind_eq_some_iff.mp h
  refine gv_d hq (hs _ _ rfl) rfl rfl rfl rfl (gv_dd (by omega) (t_M_who X F (d - 1) (by omega) D E _ _ _ h1)) (S' := (504, [some (.ref 2001), some (.ref 0), some (.ref 116), some (.int l3)], [.int r10, .int r9], D, E)) rfl ?_
  refine gv_b hq (hs _ _ rfl) h 2168 507 rfl rfl rfl (fun h => ?_) (fun h => ?_)
  · exact gv_w (tb_law_2168 X F d hd k18 K18 _ _ _ _ h) (And.intro rfl (And.intro rfl (And.intro rfl (And.intro rfl trivial))))
  · refine gw_n hq hs 1 (S' := (508, [some (.ref 2001), some (.ref 0), some (.ref 116), some (.int l3)], [.int (nI 0)], D, E)) rfl ?_
    cases h
    exact ev_ret hq (hs _ _ rfl) rfl ⟨rfl, rfl, rfl⟩
set_option maxRecDepth 100000 in
set_option maxHeartbeats 4000000 in
theorem tb_law_509 (X : ev_X) (F : Nat) (d : Nat) (hd : 105 ≤ d + 1) (k18 : Int32 → mx_D → mx_E → Option (Int32 × mx_D × mx_E)) (K18 : ∀ (l3 : Int32) (D : mx_D) (E : mx_E) (v : Int32 × mx_D × mx_E), k18 l3 D E = some v → ev X (d + 1) 337 (18, [some (.ref 2001), some (.ref 0), some (.ref 116), some (.int l3)], [], D, E) (qR (some (.int v.1)) v.2.1 v.2.2)) (l3 : Int32) (D : mx_D) (E : mx_E) (v : Int32 × mx_D × mx_E) (h : b_law_509 F X k18 l3 D E = some v) : ev X (d + 1) 337 (509, [some (.ref 2001), some (.ref 0), some (.ref 116), some (.int l3)], [], D, E) (qR (some (.int v.1)) v.2.1 v.2.2) := by
  have hq : kq_m 337 = some kq_q337 := rfl
  unfold b_law_509 at h
  have hs := lc_s5
  refine gw_n hq hs 5 (S' := (514, [some (.ref 2001), some (.ref 0), some (.ref 116), some (.int l3)], [.int (l3 + (nI 1)), .ref 2001, .ref 0], D, E)) rfl ?_
  refine gv_ix hq (hs _ _ rfl) rfl h 515 rfl (fun h => ?_)
  refine gw_n hq hs 4 (S' := (519, [some (.ref 2001), some (.ref 0), some (.ref 116), some (.int l3)], [.int (l3 + (nI 2)), .ref 2001, .int (X.2 ((l3 + (nI 1))).toNatClampNeg), .ref 0], D, E)) rfl ?_
  refine gv_ix hq (hs _ _ rfl) rfl h 520 rfl (fun h => ?_)
  obtain ⟨r11, h1, h⟩ := Option.bind_eq_some_iff.mp h
  refine gv_d hq (hs _ _ rfl) rfl rfl rfl rfl (gv_dd (by omega) (t_X_person X F (d - 1) (by omega) D E _ _ _ h1)) (S' := (523, [some (.ref 2001), some (.ref 0), some (.ref 116), some (.int l3)], [.int r11], D, E)) rfl ?_
  refine gw_n hq hs 5 (S' := (528, [some (.ref 2001), some (.ref 0), some (.ref 116), some (.int l3)], [.int (l3 + (nI 1)), .ref 2001, .ref 116, .int r11], D, E)) rfl ?_
  refine gv_ix hq (hs _ _ rfl) rfl h 529 rfl (fun h => ?_)
  refine gw_n hq hs 4 (S' := (533, [some (.ref 2001), some (.ref 0), some (.ref 116), some (.int l3)], [.int (l3 + (nI 2)), .ref 2001, .int (X.2 ((l3 + (nI 1))).toNatClampNeg), .ref 116, .int r11], D, E)) rfl ?_
  refine gv_ix hq (hs _ _ rfl) rfl h 534 rfl (fun h => ?_)
  obtain ⟨r12, h1, h⟩ := Option.bind_eq_some_iff.mp h
  refine gv_d hq (hs _ _ rfl) rfl rfl rfl rfl (gv_dd (by omega) (t_M_person X F (d - 1) (by omega) D E _ _ _ h1)) (S' := (537, [some (.ref 2001), some (.ref 0), some (.ref 116), some (.int l3)], [.int r12, .int r11], D, E)) rfl ?_
  refine gv_b hq (hs _ _ rfl) h 2168 540 rfl rfl rfl (fun h => ?_) (fun h => ?_)
  · exact gv_w (tb_law_2168 X F d hd k18 K18 _ _ _ _ h) (And.intro rfl (And.intro rfl (And.intro rfl (And.intro rfl trivial))))
  · refine gw_n hq hs 1 (S' := (541, [some (.ref 2001), some (.ref 0), some (.ref 116), some (.int l3)], [.int (nI 0)], D, E)) rfl ?_
    cases h
    exact ev_ret hq (hs _ _ rfl) rfl ⟨rfl, rfl, rfl⟩
set_option maxRecDepth 100000 in
set_option maxHeartbeats 4000000 in
theorem tb_law_542 (X : ev_X) (F : Nat) (d : Nat) (hd : 105 ≤ d + 1) (k18 : Int32 → mx_D → mx_E → Option (Int32 × mx_D × mx_E)) (K18 : ∀ (l3 : Int32) (D : mx_D) (E : mx_E) (v : Int32 × mx_D × mx_E), k18 l3 D E = some v → ev X (d + 1) 337 (18, [some (.ref 2001), some (.ref 0), some (.ref 116), some (.int l3)], [], D, E) (qR (some (.int v.1)) v.2.1 v.2.2)) (l3 : Int32) (D : mx_D) (E : mx_E) (v : Int32 × mx_D × mx_E) (h : b_law_542 F X k18 l3 D E = some v) : ev X (d + 1) 337 (542, [some (.ref 2001), some (.ref 0), some (.ref 116), some (.int l3)], [], D, E) (qR (some (.int v.1)) v.2.1 v.2.2) := by
  have hq : kq_m 337 = some kq_q337 := rfl
  unfold b_law_542 at h
  have hs := lc_s5
  refine gw_n hq hs 5 (S' := (547, [some (.ref 2001), some (.ref 0), some (.ref 116), some (.int l3)], [.int (l3 + (nI 1)), .ref 2001, .ref 0], D, E)) rfl ?_
  refine gv_ix hq (hs _ _ rfl) rfl h 548 rfl (fun h => ?_)
  refine gw_n hq hs 4 (S' := (552, [some (.ref 2001), some (.ref 0), some (.ref 116), some (.int l3)], [.int (l3 + (nI 2)), .ref 2001, .int (X.2 ((l3 + (nI 1))).toNatClampNeg), .ref 0], D, E)) rfl ?_
  refine gv_ix hq (hs _ _ rfl) rfl h 553 rfl (fun h => ?_)
  obtain ⟨r13, h1, h⟩ := Option.bind_eq_some_iff.mp h
  refine gv_d hq (hs _ _ rfl) rfl rfl rfl rfl (gv_dd (by omega) (t_X_thing X (d - 1) (by omega) D E _ _ _ h1)) (S' := (556, [some (.ref 2001), some (.ref 0), some (.ref 116), some (.int l3)], [.int r13], D, E)) rfl ?_
  refine gw_n hq hs 5 (S' := (561, [some (.ref 2001), some (.ref 0), some (.ref 116), some (.int l3)], [.int (l3 + (nI 1)), .ref 2001, .ref 116, .int r13], D, E)) rfl ?_
  refine gv_ix hq (hs _ _ rfl) rfl h 562 rfl (fun h => ?_)
  refine gw_n hq hs 4 (S' := (566, [some (.ref 2001), some (.ref 0), some (.ref 116), some (.int l3)], [.int (l3 + (nI 2)), .ref 2001, .int (X.2 ((l3 + (nI 1))).toNatClampNeg), .ref 116, .int r13], D, E)) rfl ?_
  refine gv_ix hq (hs _ _ rfl) rfl h 567 rfl (fun h => ?_)
  obtain ⟨r14, h1, h⟩ := Option.bind_eq_some_iff.mp h
  refine gv_d hq (hs _ _ rfl) rfl rfl rfl rfl (gv_dd (by omega) (t_M_thing X (d - 1) (by omega) D E _ _ _ h1)) (S' := (570, [some (.ref 2001), some (.ref 0), some (.ref 116), some (.int l3)], [.int r14, .int r13], D, E)) rfl ?_
  refine gv_b hq (hs _ _ rfl) h 2168 573 rfl rfl rfl (fun h => ?_) (fun h => ?_)
  · exact gv_w (tb_law_2168 X F d hd k18 K18 _ _ _ _ h) (And.intro rfl (And.intro rfl (And.intro rfl (And.intro rfl trivial))))
  · refine gw_n hq hs 1 (S' := (574, [some (.ref 2001), some (.ref 0), some (.ref 116), some (.int l3)], [.int (nI 0)], D, E)) rfl ?_
    cases h
    exact ev_ret hq (hs _ _ rfl) rfl ⟨rfl, rfl, rfl⟩
set_option maxRecDepth 100000 in
set_option maxHeartbeats 4000000 in
theorem tb_law_575 (X : ev_X) (F : Nat) (d : Nat) (hd : 105 ≤ d + 1) (k18 : Int32 → mx_D → mx_E → Option (Int32 × mx_D × mx_E)) (K18 : ∀ (l3 : Int32) (D : mx_D) (E : mx_E) (v : Int32 × mx_D × mx_E), k18 l3 D E = some v → ev X (d + 1) 337 (18, [some (.ref 2001), some (.ref 0), some (.ref 116), some (.int l3)], [], D, E) (qR (some (.int v.1)) v.2.1 v.2.2)) (l3 : Int32) (D : mx_D) (E : mx_E) (v : Int32 × mx_D × mx_E) (h : b_law_575 F X k18 l3 D E = some v) : ev X (d + 1) 337 (575, [some (.ref 2001), some (.ref 0), some (.ref 116), some (.int l3)], [], D, E) (qR (some (.int v.1)) v.2.1 v.2.2) := by
  have hq : kq_m 337 = some kq_q337 := rfl
  unfold b_law_575 at h
  have hs := lc_s6
  refine gw_n hq hs 5 (S' := (580, [some (.ref 2001), some (.ref 0), some (.ref 116), some (.int l3)], [.int (l3 + (nI 1)), .ref 2001, .ref 0], D, E)) rfl ?_
  refine gv_ix hq (hs _ _ rfl) rfl h 581 rfl (fun h => ?_)
  refine gw_n hq hs 4 (S' := (585, [some (.ref 2001), some (.ref 0), some (.ref 116), some (.int l3)], [.int (l3 + (nI 2)), .ref 2001, .int (X.2 ((l3 + (nI 1))).toNatClampNeg), .ref 0], D, E)) rfl ?_
  refine gv_ix hq (hs _ _ rfl) rfl h 586 rfl (fun h => ?_)
  obtain ⟨r15, h1, h⟩ := Option.bind_eq_some_iff.mp h
  refine gv_d hq (hs _ _ rfl) rfl rfl rfl rfl (gv_dd (by omega) (t_X_high X F (d - 1) (by omega) D E _ _ _ h1)) (S' := (589, [some (.ref 2001), some (.ref 0), some (.ref 116), some (.int l3)], [.int r15], D, E)) rfl ?_
  refine gw_n hq hs 5 (S' := (594, [some (.ref 2001), some (.ref 0), some (.ref 116), some (.int l3)], [.int (l3 + (nI 1)), .ref 2001, .ref 116, .int r15], D, E)) rfl ?_
  refine gv_ix hq (hs _ _ rfl) rfl h 595 rfl (fun h => ?_)
  refine gw_n hq hs 4 (S' := (599, [some (.ref 2001), some (.ref 0), some (.ref 116), some (.int l3)], [.int (l3 + (nI 2)), .ref 2001, .int (X.2 ((l3 + (nI 1))).toNatClampNeg), .ref 116, .int r15], D, E)) rfl ?_
  refine gv_ix hq (hs _ _ rfl) rfl h 600 rfl (fun h => ?_)
  obtain ⟨r16, h1, h⟩ := Option.bind_eq_some_iff.mp h
  refine gv_d hq (hs _ _ rfl) rfl rfl rfl rfl (gv_dd (by omega) (t_M_high X F (d - 1) (by omega) D E _ _ _ h1)) (S' := (603, [some (.ref 2001), some (.ref 0), some (.ref 116), some (.int l3)], [.int r16, .int r15], D, E)) rfl ?_
  refine gv_b hq (hs _ _ rfl) h 2168 606 rfl rfl rfl (fun h => ?_) (fun h => ?_)
  · exact gv_w (tb_law_2168 X F d hd k18 K18 _ _ _ _ h) (And.intro rfl (And.intro rfl (And.intro rfl (And.intro rfl trivial))))
  · refine gw_n hq hs 1 (S' := (607, [some (.ref 2001), some (.ref 0), some (.ref 116), some (.int l3)], [.int (nI 0)], D, E)) rfl ?_
    cases h
    exact ev_ret hq (hs _ _ rfl) rfl ⟨rfl, rfl, rfl⟩
set_option maxRecDepth 100000 in
set_option maxHeartbeats 4000000 in
theorem tb_law_608 (X : ev_X) (F : Nat) (d : Nat) (hd : 105 ≤ d + 1) (k18 : Int32 → mx_D → mx_E → Option (Int32 × mx_D × mx_E)) (K18 : ∀ (l3 : Int32) (D : mx_D) (E : mx_E) (v : Int32 × mx_D × mx_E), k18 l3 D E = some v → ev X (d + 1) 337 (18, [some (.ref 2001), some (.ref 0), some (.ref 116), some (.int l3)], [], D, E) (qR (some (.int v.1)) v.2.1 v.2.2)) (l3 : Int32) (D : mx_D) (E : mx_E) (v : Int32 × mx_D × mx_E) (h : b_law_608 F X k18 l3 D E = some v) : ev X (d + 1) 337 (608, [some (.ref 2001), some (.ref 0), some (.ref 116), some (.int l3)], [], D, E) (qR (some (.int v.1)) v.2.1 v.2.2) := by
  have hq : kq_m 337 = some kq_q337 := rfl
  unfold b_law_608 at h
  have hs := lc_s7
  refine gw_n hq hs 5 (S' := (613, [some (.ref 2001), some (.ref 0), some (.ref 116), some (.int l3)], [.int (l3 + (nI 1)), .ref 2001, .ref 0], D, E)) rfl ?_
  refine gv_ix hq (hs _ _ rfl) rfl h 614 rfl (fun h => ?_)
  refine gw_n hq hs 4 (S' := (618, [some (.ref 2001), some (.ref 0), some (.ref 116), some (.int l3)], [.int (l3 + (nI 2)), .ref 2001, .int (X.2 ((l3 + (nI 1))).toNatClampNeg), .ref 0], D, E)) rfl ?_
  refine gv_ix hq (hs _ _ rfl) rfl h 619 rfl (fun h => ?_)
  obtain ⟨r17, h1, h⟩ := Option.bind_eq_some_iff.mp h
  refine gv_d hq (hs _ _ rfl) rfl rfl rfl rfl (gv_dd (by omega) (t_X_spread X F (d - 1) (by omega) E _ _ _ _ h1)) (S' := (622, [some (.ref 2001), some (.ref 0), some (.ref 116), some (.int l3)], [.int r17.1], r17.2, E)) rfl ?_
  refine gw_n hq hs 5 (S' := (627, [some (.ref 2001), some (.ref 0), some (.ref 116), some (.int l3)], [.int (l3 + (nI 1)), .ref 2001, .ref 116, .int r17.1], r17.2, E)) rfl ?_
  refine gv_ix hq (hs _ _ rfl) rfl h 628 rfl (fun h => ?_)
  refine gw_n hq hs 4 (S' := (632, [some (.ref 2001), some (.ref 0), some (.ref 116), some (.int l3)], [.int (l3 + (nI 2)), .ref 2001, .int (X.2 ((l3 + (nI 1))).toNatClampNeg), .ref 116, .int r17.1], r17.2, E)) rfl ?_
  refine gv_ix hq (hs _ _ rfl) rfl h 633 rfl (fun h => ?_)
  obtain ⟨r18, h1, h⟩ := Option.bind_eq_some_iff.mp h
  refine gv_d hq (hs _ _ rfl) rfl rfl rfl rfl (gv_dd (by omega) (t_M_spread X F (d - 1) (by omega) E _ _ _ _ h1)) (S' := (636, [some (.ref 2001), some (.ref 0), some (.ref 116), some (.int l3)], [.int r18.1, .int r17.1], r18.2, E)) rfl ?_
  refine gv_b hq (hs _ _ rfl) h 2168 639 rfl rfl rfl (fun h => ?_) (fun h => ?_)
  · exact gv_w (tb_law_2168 X F d hd k18 K18 _ _ _ _ h) (And.intro rfl (And.intro rfl (And.intro rfl (And.intro rfl trivial))))
  · refine gw_n hq hs 1 (S' := (640, [some (.ref 2001), some (.ref 0), some (.ref 116), some (.int l3)], [.int (nI 0)], r18.2, E)) rfl ?_
    cases h
    exact ev_ret hq (hs _ _ rfl) rfl ⟨rfl, rfl, rfl⟩
set_option maxRecDepth 100000 in
set_option maxHeartbeats 4000000 in
theorem tb_law_641 (X : ev_X) (F : Nat) (d : Nat) (hd : 105 ≤ d + 1) (k18 : Int32 → mx_D → mx_E → Option (Int32 × mx_D × mx_E)) (K18 : ∀ (l3 : Int32) (D : mx_D) (E : mx_E) (v : Int32 × mx_D × mx_E), k18 l3 D E = some v → ev X (d + 1) 337 (18, [some (.ref 2001), some (.ref 0), some (.ref 116), some (.int l3)], [], D, E) (qR (some (.int v.1)) v.2.1 v.2.2)) (l3 : Int32) (D : mx_D) (E : mx_E) (v : Int32 × mx_D × mx_E) (h : b_law_641 F X k18 l3 D E = some v) : ev X (d + 1) 337 (641, [some (.ref 2001), some (.ref 0), some (.ref 116), some (.int l3)], [], D, E) (qR (some (.int v.1)) v.2.1 v.2.2) := by
  have hq : kq_m 337 = some kq_q337 := rfl
  unfold b_law_641 at h
  have hs := lc_s7
  refine gw_n hq hs 5 (S' := (646, [some (.ref 2001), some (.ref 0), some (.ref 116), some (.int l3)], [.int (l3 + (nI 1)), .ref 2001, .ref 0], D, E)) rfl ?_
  refine gv_ix hq (hs _ _ rfl) rfl h 647 rfl (fun h => ?_)
  obtain ⟨r19, h1, h⟩ := Option.bind_eq_some_iff.mp h
  refine gv_d hq (hs _ _ rfl) rfl rfl rfl rfl (gv_dd (by omega) (t_X_level X F (d - 1) (by omega) E _ _ _ h1)) (S' := (650, [some (.ref 2001), some (.ref 0), some (.ref 116), some (.int l3)], [.int r19.1], r19.2, E)) rfl ?_
  refine gw_n hq hs 5 (S' := (655, [some (.ref 2001), some (.ref 0), some (.ref 116), some (.int l3)], [.int (l3 + (nI 1)), .ref 2001, .ref 116, .int r19.1], r19.2, E)) rfl ?_
  refine gv_ix hq (hs _ _ rfl) rfl h 656 rfl (fun h => ?_)
  obtain ⟨r20, h1, h⟩ := Option.bind_eq_some_iff.mp h
  refine gv_d hq (hs _ _ rfl) rfl rfl rfl rfl (gv_dd (by omega) (t_M_level X F (d - 1) (by omega) E _ _ _ h1)) (S' := (659, [some (.ref 2001), some (.ref 0), some (.ref 116), some (.int l3)], [.int r20.1, .int r19.1], r20.2, E)) rfl ?_
  refine gv_b hq (hs _ _ rfl) h 2168 662 rfl rfl rfl (fun h => ?_) (fun h => ?_)
  · exact gv_w (tb_law_2168 X F d hd k18 K18 _ _ _ _ h) (And.intro rfl (And.intro rfl (And.intro rfl (And.intro rfl trivial))))
  · refine gw_n hq hs 1 (S' := (663, [some (.ref 2001), some (.ref 0), some (.ref 116), some (.int l3)], [.int (nI 0)], r20.2, E)) rfl ?_
    cases h
    exact ev_ret hq (hs _ _ rfl) rfl ⟨rfl, rfl, rfl⟩
set_option maxRecDepth 100000 in
set_option maxHeartbeats 4000000 in
theorem tb_law_664 (X : ev_X) (F : Nat) (d : Nat) (hd : 105 ≤ d + 1) (k18 : Int32 → mx_D → mx_E → Option (Int32 × mx_D × mx_E)) (K18 : ∀ (l3 : Int32) (D : mx_D) (E : mx_E) (v : Int32 × mx_D × mx_E), k18 l3 D E = some v → ev X (d + 1) 337 (18, [some (.ref 2001), some (.ref 0), some (.ref 116), some (.int l3)], [], D, E) (qR (some (.int v.1)) v.2.1 v.2.2)) (l3 : Int32) (D : mx_D) (E : mx_E) (v : Int32 × mx_D × mx_E) (h : b_law_664 F X k18 l3 D E = some v) : ev X (d + 1) 337 (664, [some (.ref 2001), some (.ref 0), some (.ref 116), some (.int l3)], [], D, E) (qR (some (.int v.1)) v.2.1 v.2.2) := by
  have hq : kq_m 337 = some kq_q337 := rfl
  unfold b_law_664 at h
  have hs := lc_s8
  refine gw_n hq hs 5 (S' := (669, [some (.ref 2001), some (.ref 0), some (.ref 116), some (.int l3)], [.int (l3 + (nI 1)), .ref 2001, .ref 0], D, E)) rfl ?_
  refine gv_ix hq (hs _ _ rfl) rfl h 670 rfl (fun h => ?_)
  obtain ⟨r21, h1, h⟩ := Option.bind_eq_some_iff.mp h
  refine gv_d hq (hs _ _ rfl) rfl rfl rfl rfl (gv_dd (by omega) (t_X_first X F (d - 1) (by omega) E _ _ _ h1)) (S' := (673, [some (.ref 2001), some (.ref 0), some (.ref 116), some (.int l3)], [.int r21.1], r21.2, E)) rfl ?_
  refine gw_n hq hs 5 (S' := (678, [some (.ref 2001), some (.ref 0), some (.ref 116), some (.int l3)], [.int (l3 + (nI 1)), .ref 2001, .ref 116, .int r21.1], r21.2, E)) rfl ?_
  refine gv_ix hq (hs _ _ rfl) rfl h 679 rfl (fun h => ?_)
  obtain ⟨r22, h1, h⟩ := Option.bind_eq_some_iff.mp h
  refine gv_d hq (hs _ _ rfl) rfl rfl rfl rfl (gv_dd (by omega) (t_M_first X F (d - 1) (by omega) E _ _ _ h1)) (S' := (682, [some (.ref 2001), some (.ref 0), some (.ref 116), some (.int l3)], [.int r22.1, .int r21.1], r22.2, E)) rfl ?_
  refine gv_b hq (hs _ _ rfl) h 2168 685 rfl rfl rfl (fun h => ?_) (fun h => ?_)
  · exact gv_w (tb_law_2168 X F d hd k18 K18 _ _ _ _ h) (And.intro rfl (And.intro rfl (And.intro rfl (And.intro rfl trivial))))
  · refine gw_n hq hs 1 (S' := (686, [some (.ref 2001), some (.ref 0), some (.ref 116), some (.int l3)], [.int (nI 0)], r22.2, E)) rfl ?_
    cases h
    exact ev_ret hq (hs _ _ rfl) rfl ⟨rfl, rfl, rfl⟩
set_option maxRecDepth 100000 in
set_option maxHeartbeats 4000000 in
theorem tb_law_687 (X : ev_X) (F : Nat) (d : Nat) (hd : 105 ≤ d + 1) (k18 : Int32 → mx_D → mx_E → Option (Int32 × mx_D × mx_E)) (K18 : ∀ (l3 : Int32) (D : mx_D) (E : mx_E) (v : Int32 × mx_D × mx_E), k18 l3 D E = some v → ev X (d + 1) 337 (18, [some (.ref 2001), some (.ref 0), some (.ref 116), some (.int l3)], [], D, E) (qR (some (.int v.1)) v.2.1 v.2.2)) (l3 : Int32) (D : mx_D) (E : mx_E) (v : Int32 × mx_D × mx_E) (h : b_law_687 F X k18 l3 D E = some v) : ev X (d + 1) 337 (687, [some (.ref 2001), some (.ref 0), some (.ref 116), some (.int l3)], [], D, E) (qR (some (.int v.1)) v.2.1 v.2.2) := by
  have hq : kq_m 337 = some kq_q337 := rfl
  unfold b_law_687 at h
  have hs := lc_s8
  refine gw_n hq hs 5 (S' := (692, [some (.ref 2001), some (.ref 0), some (.ref 116), some (.int l3)], [.int (l3 + (nI 1)), .ref 2001, .ref 0], D, E)) rfl ?_
  refine gv_ix hq (hs _ _ rfl) rfl h 693 rfl (fun h => ?_)
  refine gw_n hq hs 4 (S' := (697, [some (.ref 2001), some (.ref 0), some (.ref 116), some (.int l3)], [.int (l3 + (nI 2)), .ref 2001, .int (X.2 ((l3 + (nI 1))).toNatClampNeg), .ref 0], D, E)) rfl ?_
  refine gv_ix hq (hs _ _ rfl) rfl h 698 rfl (fun h => ?_)
  obtain ⟨r23, h1, h⟩ := Option.bind_eq_some_iff.mp h
  refine gv_d hq (hs _ _ rfl) rfl rfl rfl rfl (gv_dd (by omega) (t_X_out X F (d - 1) (by omega) E _ _ _ _ h1)) (S' := (701, [some (.ref 2001), some (.ref 0), some (.ref 116), some (.int l3)], [.int r23.1], r23.2, E)) rfl ?_
  refine gw_n hq hs 5 (S' := (706, [some (.ref 2001), some (.ref 0), some (.ref 116), some (.int l3)], [.int (l3 + (nI 1)), .ref 2001, .ref 116, .int r23.1], r23.2, E)) rfl ?_
  refine gv_ix hq (hs _ _ rfl) rfl h 707 rfl (fun h => ?_)
  refine gw_n hq hs 4 (S' := (711, [some (.ref 2001), some (.ref 0), some (.ref 116), some (.int l3)], [.int (l3 + (nI 2)), .ref 2001, .int (X.2 ((l3 + (nI 1))).toNatClampNeg), .ref 116, .int r23.1], r23.2, E)) rfl ?_
  refine gv_ix hq (hs _ _ rfl) rfl h 712 rfl (fun h => ?_)
  obtain ⟨r24, h1, h⟩ := Option.bind_eq_some_iff.mp h
  refine gv_d hq (hs _ _ rfl) rfl rfl rfl rfl (gv_dd (by omega) (t_M_out X F (d - 1) (by omega) E _ _ _ _ h1)) (S' := (715, [some (.ref 2001), some (.ref 0), some (.ref 116), some (.int l3)], [.int r24.1, .int r23.1], r24.2, E)) rfl ?_
  refine gv_b hq (hs _ _ rfl) h 2168 718 rfl rfl rfl (fun h => ?_) (fun h => ?_)
  · exact gv_w (tb_law_2168 X F d hd k18 K18 _ _ _ _ h) (And.intro rfl (And.intro rfl (And.intro rfl (And.intro rfl trivial))))
  · refine gw_n hq hs 1 (S' := (719, [some (.ref 2001), some (.ref 0), some (.ref 116), some (.int l3)], [.int (nI 0)], r24.2, E)) rfl ?_
    cases h
    exact ev_ret hq (hs _ _ rfl) rfl ⟨rfl, rfl, rfl⟩
set_option maxRecDepth 100000 in
set_option maxHeartbeats 4000000 in
theorem tb_law_720 (X : ev_X) (F : Nat) (d : Nat) (hd : 105 ≤ d + 1) (k18 : Int32 → mx_D → mx_E → Option (Int32 × mx_D × mx_E)) (K18 : ∀ (l3 : Int32) (D : mx_D) (E : mx_E) (v : Int32 × mx_D × mx_E), k18 l3 D E = some v → ev X (d + 1) 337 (18, [some (.ref 2001), some (.ref 0), some (.ref 116), some (.int l3)], [], D, E) (qR (some (.int v.1)) v.2.1 v.2.2)) (l3 : Int32) (D : mx_D) (E : mx_E) (v : Int32 × mx_D × mx_E) (h : b_law_720 F X k18 l3 D E = some v) : ev X (d + 1) 337 (720, [some (.ref 2001), some (.ref 0), some (.ref 116), some (.int l3)], [], D, E) (qR (some (.int v.1)) v.2.1 v.2.2) := by
  have hq : kq_m 337 = some kq_q337 := rfl
  unfold b_law_720 at h
  have hs := lc_s9
  refine gw_n hq hs 5 (S' := (725, [some (.ref 2001), some (.ref 0), some (.ref 116), some (.int l3)], [.int (l3 + (nI 1)), .ref 2001, .ref 0], D, E)) rfl ?_
  refine gv_ix hq (hs _ _ rfl) rfl h 726 rfl (fun h => ?_)
  refine gw_n hq hs 4 (S' := (730, [some (.ref 2001), some (.ref 0), some (.ref 116), some (.int l3)], [.int (l3 + (nI 2)), .ref 2001, .int (X.2 ((l3 + (nI 1))).toNatClampNeg), .ref 0], D, E)) rfl ?_
  refine gv_ix hq (hs _ _ rfl) rfl h 731 rfl (fun h => ?_)
  obtain ⟨r25, h1, h⟩ := Option.bind_eq_some_iff.mp h
  refine gv_d hq (hs _ _ rfl) rfl rfl rfl rfl (gv_dd (by omega) (t_X_above X F (d - 1) (by omega) E _ _ _ _ h1)) (S' := (734, [some (.ref 2001), some (.ref 0), some (.ref 116), some (.int l3)], [.int r25.1], r25.2, E)) rfl ?_
  refine gw_n hq hs 5 (S' := (739, [some (.ref 2001), some (.ref 0), some (.ref 116), some (.int l3)], [.int (l3 + (nI 1)), .ref 2001, .ref 116, .int r25.1], r25.2, E)) rfl ?_
  refine gv_ix hq (hs _ _ rfl) rfl h 740 rfl (fun h => ?_)
  refine gw_n hq hs 4 (S' := (744, [some (.ref 2001), some (.ref 0), some (.ref 116), some (.int l3)], [.int (l3 + (nI 2)), .ref 2001, .int (X.2 ((l3 + (nI 1))).toNatClampNeg), .ref 116, .int r25.1], r25.2, E)) rfl ?_
  refine gv_ix hq (hs _ _ rfl) rfl h 745 rfl (fun h => ?_)
  obtain ⟨r26, h1, h⟩ := Option.bind_eq_some_iff.mp h
  refine gv_d hq (hs _ _ rfl) rfl rfl rfl rfl (gv_dd (by omega) (t_M_above X F (d - 1) (by omega) E _ _ _ _ h1)) (S' := (748, [some (.ref 2001), some (.ref 0), some (.ref 116), some (.int l3)], [.int r26.1, .int r25.1], r26.2, E)) rfl ?_
  refine gv_b hq (hs _ _ rfl) h 2168 751 rfl rfl rfl (fun h => ?_) (fun h => ?_)
  · exact gv_w (tb_law_2168 X F d hd k18 K18 _ _ _ _ h) (And.intro rfl (And.intro rfl (And.intro rfl (And.intro rfl trivial))))
  · refine gw_n hq hs 1 (S' := (752, [some (.ref 2001), some (.ref 0), some (.ref 116), some (.int l3)], [.int (nI 0)], r26.2, E)) rfl ?_
    cases h
    exact ev_ret hq (hs _ _ rfl) rfl ⟨rfl, rfl, rfl⟩
set_option maxRecDepth 100000 in
set_option maxHeartbeats 4000000 in
theorem tb_law_753 (X : ev_X) (F : Nat) (d : Nat) (hd : 105 ≤ d + 1) (k18 : Int32 → mx_D → mx_E → Option (Int32 × mx_D × mx_E)) (K18 : ∀ (l3 : Int32) (D : mx_D) (E : mx_E) (v : Int32 × mx_D × mx_E), k18 l3 D E = some v → ev X (d + 1) 337 (18, [some (.ref 2001), some (.ref 0), some (.ref 116), some (.int l3)], [], D, E) (qR (some (.int v.1)) v.2.1 v.2.2)) (l3 : Int32) (D : mx_D) (E : mx_E) (v : Int32 × mx_D × mx_E) (h : b_law_753 F X k18 l3 D E = some v) : ev X (d + 1) 337 (753, [some (.ref 2001), some (.ref 0), some (.ref 116), some (.int l3)], [], D, E) (qR (some (.int v.1)) v.2.1 v.2.2) := by
  have hq : kq_m 337 = some kq_q337 := rfl
  unfold b_law_753 at h
  have hs := lc_s9
  refine gw_n hq hs 5 (S' := (758, [some (.ref 2001), some (.ref 0), some (.ref 116), some (.int l3)], [.int (l3 + (nI 1)), .ref 2001, .ref 0], D, E)) rfl ?_
  refine gv_ix hq (hs _ _ rfl) rfl h 759 rfl (fun h => ?_)
  obtain ⟨r27, h1, h⟩ := Option.bind_eq_some_iff.mp h
  refine gv_d hq (hs _ _ rfl) rfl rfl rfl rfl (gv_dd (by omega) (t_X_saws X F (d - 1) (by omega) E _ _ _ h1)) (S' := (762, [some (.ref 2001), some (.ref 0), some (.ref 116), some (.int l3)], [.int r27.1], r27.2, E)) rfl ?_
  refine gw_n hq hs 5 (S' := (767, [some (.ref 2001), some (.ref 0), some (.ref 116), some (.int l3)], [.int (l3 + (nI 1)), .ref 2001, .ref 116, .int r27.1], r27.2, E)) rfl ?_
  refine gv_ix hq (hs _ _ rfl) rfl h 768 rfl (fun h => ?_)
  obtain ⟨r28, h1, h⟩ := Option.bind_eq_some_iff.mp h
  refine gv_d hq (hs _ _ rfl) rfl rfl rfl rfl (gv_dd (by omega) (t_M_saws X F (d - 1) (by omega) E _ _ _ h1)) (S' := (771, [some (.ref 2001), some (.ref 0), some (.ref 116), some (.int l3)], [.int r28.1, .int r27.1], r28.2, E)) rfl ?_
  refine gv_b hq (hs _ _ rfl) h 2168 774 rfl rfl rfl (fun h => ?_) (fun h => ?_)
  · exact gv_w (tb_law_2168 X F d hd k18 K18 _ _ _ _ h) (And.intro rfl (And.intro rfl (And.intro rfl (And.intro rfl trivial))))
  · refine gw_n hq hs 1 (S' := (775, [some (.ref 2001), some (.ref 0), some (.ref 116), some (.int l3)], [.int (nI 0)], r28.2, E)) rfl ?_
    cases h
    exact ev_ret hq (hs _ _ rfl) rfl ⟨rfl, rfl, rfl⟩
set_option maxRecDepth 100000 in
set_option maxHeartbeats 4000000 in
theorem tb_law_776 (X : ev_X) (F : Nat) (d : Nat) (hd : 105 ≤ d + 1) (k18 : Int32 → mx_D → mx_E → Option (Int32 × mx_D × mx_E)) (K18 : ∀ (l3 : Int32) (D : mx_D) (E : mx_E) (v : Int32 × mx_D × mx_E), k18 l3 D E = some v → ev X (d + 1) 337 (18, [some (.ref 2001), some (.ref 0), some (.ref 116), some (.int l3)], [], D, E) (qR (some (.int v.1)) v.2.1 v.2.2)) (l3 : Int32) (D : mx_D) (E : mx_E) (v : Int32 × mx_D × mx_E) (h : b_law_776 F X k18 l3 D E = some v) : ev X (d + 1) 337 (776, [some (.ref 2001), some (.ref 0), some (.ref 116), some (.int l3)], [], D, E) (qR (some (.int v.1)) v.2.1 v.2.2) := by
  have hq : kq_m 337 = some kq_q337 := rfl
  unfold b_law_776 at h
  have hs := lc_s10
  refine gw_n hq hs 5 (S' := (781, [some (.ref 2001), some (.ref 0), some (.ref 116), some (.int l3)], [.int (l3 + (nI 1)), .ref 2001, .ref 0], D, E)) rfl ?_
  refine gv_ix hq (hs _ _ rfl) rfl h 782 rfl (fun h => ?_)
  refine gw_n hq hs 4 (S' := (786, [some (.ref 2001), some (.ref 0), some (.ref 116), some (.int l3)], [.int (l3 + (nI 2)), .ref 2001, .int (X.2 ((l3 + (nI 1))).toNatClampNeg), .ref 0], D, E)) rfl ?_
  refine gv_ix hq (hs _ _ rfl) rfl h 787 rfl (fun h => ?_)
  obtain ⟨r29, h1, h⟩ := Option.bind_eq_some_iff.mp h
  refine gv_d hq (hs _ _ rfl) rfl rfl rfl rfl (gv_dd (by omega) (t_X_saw X F (d - 1) (by omega) E _ _ _ _ h1)) (S' := (790, [some (.ref 2001), some (.ref 0), some (.ref 116), some (.int l3)], [.int r29.1], r29.2, E)) rfl ?_
  refine gw_n hq hs 5 (S' := (795, [some (.ref 2001), some (.ref 0), some (.ref 116), some (.int l3)], [.int (l3 + (nI 1)), .ref 2001, .ref 116, .int r29.1], r29.2, E)) rfl ?_
  refine gv_ix hq (hs _ _ rfl) rfl h 796 rfl (fun h => ?_)
  refine gw_n hq hs 4 (S' := (800, [some (.ref 2001), some (.ref 0), some (.ref 116), some (.int l3)], [.int (l3 + (nI 2)), .ref 2001, .int (X.2 ((l3 + (nI 1))).toNatClampNeg), .ref 116, .int r29.1], r29.2, E)) rfl ?_
  refine gv_ix hq (hs _ _ rfl) rfl h 801 rfl (fun h => ?_)
  obtain ⟨r30, h1, h⟩ := Option.bind_eq_some_iff.mp h
  refine gv_d hq (hs _ _ rfl) rfl rfl rfl rfl (gv_dd (by omega) (t_M_saw X F (d - 1) (by omega) E _ _ _ _ h1)) (S' := (804, [some (.ref 2001), some (.ref 0), some (.ref 116), some (.int l3)], [.int r30.1, .int r29.1], r30.2, E)) rfl ?_
  refine gv_b hq (hs _ _ rfl) h 2168 807 rfl rfl rfl (fun h => ?_) (fun h => ?_)
  · exact gv_w (tb_law_2168 X F d hd k18 K18 _ _ _ _ h) (And.intro rfl (And.intro rfl (And.intro rfl (And.intro rfl trivial))))
  · refine gw_n hq hs 1 (S' := (808, [some (.ref 2001), some (.ref 0), some (.ref 116), some (.int l3)], [.int (nI 0)], r30.2, E)) rfl ?_
    cases h
    exact ev_ret hq (hs _ _ rfl) rfl ⟨rfl, rfl, rfl⟩
set_option maxRecDepth 100000 in
set_option maxHeartbeats 4000000 in
theorem tb_law_809 (X : ev_X) (F : Nat) (d : Nat) (hd : 105 ≤ d + 1) (k18 : Int32 → mx_D → mx_E → Option (Int32 × mx_D × mx_E)) (K18 : ∀ (l3 : Int32) (D : mx_D) (E : mx_E) (v : Int32 × mx_D × mx_E), k18 l3 D E = some v → ev X (d + 1) 337 (18, [some (.ref 2001), some (.ref 0), some (.ref 116), some (.int l3)], [], D, E) (qR (some (.int v.1)) v.2.1 v.2.2)) (l3 : Int32) (D : mx_D) (E : mx_E) (v : Int32 × mx_D × mx_E) (h : b_law_809 F X k18 l3 D E = some v) : ev X (d + 1) 337 (809, [some (.ref 2001), some (.ref 0), some (.ref 116), some (.int l3)], [], D, E) (qR (some (.int v.1)) v.2.1 v.2.2) := by
  have hq : kq_m 337 = some kq_q337 := rfl
  unfold b_law_809 at h
  have hs := lc_s11
  refine gw_n hq hs 5 (S' := (814, [some (.ref 2001), some (.ref 0), some (.ref 116), some (.int l3)], [.int (l3 + (nI 1)), .ref 2001, .ref 0], D, E)) rfl ?_
  refine gv_ix hq (hs _ _ rfl) rfl h 815 rfl (fun h => ?_)
  obtain ⟨r31, h1, h⟩ := Option.bind_eq_some_iff.mp h
  refine gv_d hq (hs _ _ rfl) rfl rfl rfl rfl (gv_dd (by omega) (t_X_ways X F (d - 1) (by omega) E _ _ _ h1)) (S' := (818, [some (.ref 2001), some (.ref 0), some (.ref 116), some (.int l3)], [.int r31.1], r31.2, E)) rfl ?_
  refine gw_n hq hs 5 (S' := (823, [some (.ref 2001), some (.ref 0), some (.ref 116), some (.int l3)], [.int (l3 + (nI 1)), .ref 2001, .ref 116, .int r31.1], r31.2, E)) rfl ?_
  refine gv_ix hq (hs _ _ rfl) rfl h 824 rfl (fun h => ?_)
  obtain ⟨r32, h1, h⟩ := Option.bind_eq_some_iff.mp h
  refine gv_d hq (hs _ _ rfl) rfl rfl rfl rfl (gv_dd (by omega) (t_M_ways X F (d - 1) (by omega) E _ _ _ h1)) (S' := (827, [some (.ref 2001), some (.ref 0), some (.ref 116), some (.int l3)], [.int r32.1, .int r31.1], r32.2, E)) rfl ?_
  refine gv_b hq (hs _ _ rfl) h 2168 830 rfl rfl rfl (fun h => ?_) (fun h => ?_)
  · exact gv_w (tb_law_2168 X F d hd k18 K18 _ _ _ _ h) (And.intro rfl (And.intro rfl (And.intro rfl (And.intro rfl trivial))))
  · refine gw_n hq hs 1 (S' := (831, [some (.ref 2001), some (.ref 0), some (.ref 116), some (.int l3)], [.int (nI 0)], r32.2, E)) rfl ?_
    cases h
    exact ev_ret hq (hs _ _ rfl) rfl ⟨rfl, rfl, rfl⟩
set_option maxRecDepth 100000 in
set_option maxHeartbeats 4000000 in
theorem tb_law_832 (X : ev_X) (F : Nat) (d : Nat) (hd : 105 ≤ d + 1) (k18 : Int32 → mx_D → mx_E → Option (Int32 × mx_D × mx_E)) (K18 : ∀ (l3 : Int32) (D : mx_D) (E : mx_E) (v : Int32 × mx_D × mx_E), k18 l3 D E = some v → ev X (d + 1) 337 (18, [some (.ref 2001), some (.ref 0), some (.ref 116), some (.int l3)], [], D, E) (qR (some (.int v.1)) v.2.1 v.2.2)) (l3 : Int32) (D : mx_D) (E : mx_E) (v : Int32 × mx_D × mx_E) (h : b_law_832 F X k18 l3 D E = some v) : ev X (d + 1) 337 (832, [some (.ref 2001), some (.ref 0), some (.ref 116), some (.int l3)], [], D, E) (qR (some (.int v.1)) v.2.1 v.2.2) := by
  have hq : kq_m 337 = some kq_q337 := rfl
  unfold b_law_832 at h
  have hs := lc_s11
  refine gw_n hq hs 5 (S' := (837, [some (.ref 2001), some (.ref 0), some (.ref 116), some (.int l3)], [.int (l3 + (nI 1)), .ref 2001, .ref 0], D, E)) rfl ?_
  refine gv_ix hq (hs _ _ rfl) rfl h 838 rfl (fun h => ?_)
  obtain ⟨r33, h1, h⟩ := Option.bind_eq_some_iff.mp h
  refine gv_d hq (hs _ _ rfl) rfl rfl rfl rfl (gv_dd (by omega) (t_X_ever X F (d - 1) (by omega) E _ _ _ h1)) (S' := (841, [some (.ref 2001), some (.ref 0), some (.ref 116), some (.int l3)], [.int r33.1], r33.2, E)) rfl ?_
  refine gw_n hq hs 5 (S' := (846, [some (.ref 2001), some (.ref 0), some (.ref 116), some (.int l3)], [.int (l3 + (nI 1)), .ref 2001, .ref 116, .int r33.1], r33.2, E)) rfl ?_
  refine gv_ix hq (hs _ _ rfl) rfl h 847 rfl (fun h => ?_)
  obtain ⟨r34, h1, h⟩ := Option.bind_eq_some_iff.mp h
  refine gv_d hq (hs _ _ rfl) rfl rfl rfl rfl (gv_dd (by omega) (t_M_ever X F (d - 1) (by omega) E _ _ _ h1)) (S' := (850, [some (.ref 2001), some (.ref 0), some (.ref 116), some (.int l3)], [.int r34.1, .int r33.1], r34.2, E)) rfl ?_
  refine gv_b hq (hs _ _ rfl) h 2168 853 rfl rfl rfl (fun h => ?_) (fun h => ?_)
  · exact gv_w (tb_law_2168 X F d hd k18 K18 _ _ _ _ h) (And.intro rfl (And.intro rfl (And.intro rfl (And.intro rfl trivial))))
  · refine gw_n hq hs 1 (S' := (854, [some (.ref 2001), some (.ref 0), some (.ref 116), some (.int l3)], [.int (nI 0)], r34.2, E)) rfl ?_
    cases h
    exact ev_ret hq (hs _ _ rfl) rfl ⟨rfl, rfl, rfl⟩
set_option maxRecDepth 100000 in
set_option maxHeartbeats 4000000 in
theorem tb_law_855 (X : ev_X) (F : Nat) (d : Nat) (hd : 105 ≤ d + 1) (k18 : Int32 → mx_D → mx_E → Option (Int32 × mx_D × mx_E)) (K18 : ∀ (l3 : Int32) (D : mx_D) (E : mx_E) (v : Int32 × mx_D × mx_E), k18 l3 D E = some v → ev X (d + 1) 337 (18, [some (.ref 2001), some (.ref 0), some (.ref 116), some (.int l3)], [], D, E) (qR (some (.int v.1)) v.2.1 v.2.2)) (l3 : Int32) (D : mx_D) (E : mx_E) (v : Int32 × mx_D × mx_E) (h : b_law_855 F X k18 l3 D E = some v) : ev X (d + 1) 337 (855, [some (.ref 2001), some (.ref 0), some (.ref 116), some (.int l3)], [], D, E) (qR (some (.int v.1)) v.2.1 v.2.2) := by
  have hq : kq_m 337 = some kq_q337 := rfl
  unfold b_law_855 at h
  have hs := lc_s11
  refine gw_n hq hs 5 (S' := (860, [some (.ref 2001), some (.ref 0), some (.ref 116), some (.int l3)], [.int (l3 + (nI 1)), .ref 2001, .ref 0], D, E)) rfl ?_
  refine gv_ix hq (hs _ _ rfl) rfl h 861 rfl (fun h => ?_)
  refine gw_n hq hs 4 (S' := (865, [some (.ref 2001), some (.ref 0), some (.ref 116), some (.int l3)], [.int (l3 + (nI 2)), .ref 2001, .int (X.2 ((l3 + (nI 1))).toNatClampNeg), .ref 0], D, E)) rfl ?_
  refine gv_ix hq (hs _ _ rfl) rfl h 866 rfl (fun h => ?_)
  obtain ⟨r35, h1, h⟩ := Option.bind_eq_some_iff.mp h
  refine gv_d hq (hs _ _ rfl) rfl rfl rfl rfl (gv_dd (by omega) (t_X_sawn X F (d - 1) (by omega) E _ _ _ _ h1)) (S' := (869, [some (.ref 2001), some (.ref 0), some (.ref 116), some (.int l3)], [.int r35.1], r35.2, E)) rfl ?_
  refine gw_n hq hs 5 (S' := (874, [some (.ref 2001), some (.ref 0), some (.ref 116), some (.int l3)], [.int (l3 + (nI 1)), .ref 2001, .ref 116, .int r35.1], r35.2, E)) rfl ?_
  refine gv_ix hq (hs _ _ rfl) rfl h 875 rfl (fun h => ?_)
  refine gw_n hq hs 4 (S' := (879, [some (.ref 2001), some (.ref 0), some (.ref 116), some (.int l3)], [.int (l3 + (nI 2)), .ref 2001, .int (X.2 ((l3 + (nI 1))).toNatClampNeg), .ref 116, .int r35.1], r35.2, E)) rfl ?_
  refine gv_ix hq (hs _ _ rfl) rfl h 880 rfl (fun h => ?_)
  obtain ⟨r36, h1, h⟩ := Option.bind_eq_some_iff.mp h
  refine gv_d hq (hs _ _ rfl) rfl rfl rfl rfl (gv_dd (by omega) (t_M_sawn X F (d - 1) (by omega) E _ _ _ _ h1)) (S' := (883, [some (.ref 2001), some (.ref 0), some (.ref 116), some (.int l3)], [.int r36.1, .int r35.1], r36.2, E)) rfl ?_
  refine gv_b hq (hs _ _ rfl) h 2168 886 rfl rfl rfl (fun h => ?_) (fun h => ?_)
  · exact gv_w (tb_law_2168 X F d hd k18 K18 _ _ _ _ h) (And.intro rfl (And.intro rfl (And.intro rfl (And.intro rfl trivial))))
  · refine gw_n hq hs 1 (S' := (887, [some (.ref 2001), some (.ref 0), some (.ref 116), some (.int l3)], [.int (nI 0)], r36.2, E)) rfl ?_
    cases h
    exact ev_ret hq (hs _ _ rfl) rfl ⟨rfl, rfl, rfl⟩
set_option maxRecDepth 100000 in
set_option maxHeartbeats 4000000 in
theorem tb_law_888 (X : ev_X) (F : Nat) (d : Nat) (hd : 105 ≤ d + 1) (k18 : Int32 → mx_D → mx_E → Option (Int32 × mx_D × mx_E)) (K18 : ∀ (l3 : Int32) (D : mx_D) (E : mx_E) (v : Int32 × mx_D × mx_E), k18 l3 D E = some v → ev X (d + 1) 337 (18, [some (.ref 2001), some (.ref 0), some (.ref 116), some (.int l3)], [], D, E) (qR (some (.int v.1)) v.2.1 v.2.2)) (l3 : Int32) (D : mx_D) (E : mx_E) (v : Int32 × mx_D × mx_E) (h : b_law_888 F X k18 l3 D E = some v) : ev X (d + 1) 337 (888, [some (.ref 2001), some (.ref 0), some (.ref 116), some (.int l3)], [], D, E) (qR (some (.int v.1)) v.2.1 v.2.2) := by
  have hq : kq_m 337 = some kq_q337 := rfl
  unfold b_law_888 at h
  have hs := lc_s12
  refine gw_n hq hs 1 (S' := (889, [some (.ref 2001), some (.ref 0), some (.ref 116), some (.int l3)], [.ref 0], D, E)) rfl ?_
  obtain ⟨r37, h1, h⟩ := Option.bind_eq_some_iff.mp h
  refine gv_d hq (hs _ _ rfl) rfl rfl rfl rfl (gv_dd (by omega) (t_X_lasts X F (d - 1) (by omega) E _ _ h1)) (S' := (892, [some (.ref 2001), some (.ref 0), some (.ref 116), some (.int l3)], [.int r37.1], r37.2, E)) rfl ?_
  refine gw_n hq hs 1 (S' := (893, [some (.ref 2001), some (.ref 0), some (.ref 116), some (.int l3)], [.ref 116, .int r37.1], r37.2, E)) rfl ?_
  obtain ⟨r38, h1, h⟩ := Option.bind_eq_some_iff.mp h
  refine gv_d hq (hs _ _ rfl) rfl rfl rfl rfl (gv_dd (by omega) (t_M_lasts X F (d - 1) (by omega) E _ _ h1)) (S' := (896, [some (.ref 2001), some (.ref 0), some (.ref 116), some (.int l3)], [.int r38.1, .int r37.1], r38.2, E)) rfl ?_
  refine gv_b hq (hs _ _ rfl) h 2168 899 rfl rfl rfl (fun h => ?_) (fun h => ?_)
  · exact gv_w (tb_law_2168 X F d hd k18 K18 _ _ _ _ h) (And.intro rfl (And.intro rfl (And.intro rfl (And.intro rfl trivial))))
  · refine gw_n hq hs 1 (S' := (900, [some (.ref 2001), some (.ref 0), some (.ref 116), some (.int l3)], [.int (nI 0)], r38.2, E)) rfl ?_
    cases h
    exact ev_ret hq (hs _ _ rfl) rfl ⟨rfl, rfl, rfl⟩
set_option maxRecDepth 100000 in
set_option maxHeartbeats 4000000 in
theorem tb_law_901 (X : ev_X) (F : Nat) (d : Nat) (hd : 105 ≤ d + 1) (k18 : Int32 → mx_D → mx_E → Option (Int32 × mx_D × mx_E)) (K18 : ∀ (l3 : Int32) (D : mx_D) (E : mx_E) (v : Int32 × mx_D × mx_E), k18 l3 D E = some v → ev X (d + 1) 337 (18, [some (.ref 2001), some (.ref 0), some (.ref 116), some (.int l3)], [], D, E) (qR (some (.int v.1)) v.2.1 v.2.2)) (l3 : Int32) (D : mx_D) (E : mx_E) (v : Int32 × mx_D × mx_E) (h : b_law_901 F X k18 l3 D E = some v) : ev X (d + 1) 337 (901, [some (.ref 2001), some (.ref 0), some (.ref 116), some (.int l3)], [], D, E) (qR (some (.int v.1)) v.2.1 v.2.2) := by
  have hq : kq_m 337 = some kq_q337 := rfl
  unfold b_law_901 at h
  have hs := lc_s12
  refine gw_n hq hs 5 (S' := (906, [some (.ref 2001), some (.ref 0), some (.ref 116), some (.int l3)], [.int (l3 + (nI 1)), .ref 2001, .ref 0], D, E)) rfl ?_
  refine gv_ix hq (hs _ _ rfl) rfl h 907 rfl (fun h => ?_)
  obtain ⟨r39, h1, h⟩ := Option.bind_eq_some_iff.mp h
  refine gv_d hq (hs _ _ rfl) rfl rfl rfl rfl (gv_dd (by omega) (t_X_clash X F (d - 1) (by omega) E _ _ _ h1)) (S' := (910, [some (.ref 2001), some (.ref 0), some (.ref 116), some (.int l3)], [.int r39.1], r39.2, E)) rfl ?_
  refine gw_n hq hs 5 (S' := (915, [some (.ref 2001), some (.ref 0), some (.ref 116), some (.int l3)], [.int (l3 + (nI 1)), .ref 2001, .ref 116, .int r39.1], r39.2, E)) rfl ?_
  refine gv_ix hq (hs _ _ rfl) rfl h 916 rfl (fun h => ?_)
  obtain ⟨r40, h1, h⟩ := Option.bind_eq_some_iff.mp h
  refine gv_d hq (hs _ _ rfl) rfl rfl rfl rfl (gv_dd (by omega) (t_M_clash X F (d - 1) (by omega) E _ _ _ h1)) (S' := (919, [some (.ref 2001), some (.ref 0), some (.ref 116), some (.int l3)], [.int r40.1, .int r39.1], r40.2, E)) rfl ?_
  refine gv_b hq (hs _ _ rfl) h 2168 922 rfl rfl rfl (fun h => ?_) (fun h => ?_)
  · exact gv_w (tb_law_2168 X F d hd k18 K18 _ _ _ _ h) (And.intro rfl (And.intro rfl (And.intro rfl (And.intro rfl trivial))))
  · refine gw_n hq hs 1 (S' := (923, [some (.ref 2001), some (.ref 0), some (.ref 116), some (.int l3)], [.int (nI 0)], r40.2, E)) rfl ?_
    cases h
    exact ev_ret hq (hs _ _ rfl) rfl ⟨rfl, rfl, rfl⟩
set_option maxRecDepth 100000 in
set_option maxHeartbeats 4000000 in
theorem tb_law_924 (X : ev_X) (F : Nat) (d : Nat) (hd : 105 ≤ d + 1) (k18 : Int32 → mx_D → mx_E → Option (Int32 × mx_D × mx_E)) (K18 : ∀ (l3 : Int32) (D : mx_D) (E : mx_E) (v : Int32 × mx_D × mx_E), k18 l3 D E = some v → ev X (d + 1) 337 (18, [some (.ref 2001), some (.ref 0), some (.ref 116), some (.int l3)], [], D, E) (qR (some (.int v.1)) v.2.1 v.2.2)) (l3 : Int32) (D : mx_D) (E : mx_E) (v : Int32 × mx_D × mx_E) (h : b_law_924 F X k18 l3 D E = some v) : ev X (d + 1) 337 (924, [some (.ref 2001), some (.ref 0), some (.ref 116), some (.int l3)], [], D, E) (qR (some (.int v.1)) v.2.1 v.2.2) := by
  have hq : kq_m 337 = some kq_q337 := rfl
  unfold b_law_924 at h
  have hs := lc_s13
  refine gw_n hq hs 5 (S' := (929, [some (.ref 2001), some (.ref 0), some (.ref 116), some (.int l3)], [.int (l3 + (nI 1)), .ref 2001, .ref 0], D, E)) rfl ?_
  refine gv_ix hq (hs _ _ rfl) rfl h 930 rfl (fun h => ?_)
  obtain ⟨r41, h1, h⟩ := Option.bind_eq_some_iff.mp h
  refine gv_d hq (hs _ _ rfl) rfl rfl rfl rfl (gv_dd (by omega) (t_X_shuts X F (d - 1) (by omega) E _ _ _ h1)) (S' := (933, [some (.ref 2001), some (.ref 0), some (.ref 116), some (.int l3)], [.int r41.1], r41.2, E)) rfl ?_
  refine gw_n hq hs 5 (S' := (938, [some (.ref 2001), some (.ref 0), some (.ref 116), some (.int l3)], [.int (l3 + (nI 1)), .ref 2001, .ref 116, .int r41.1], r41.2, E)) rfl ?_
  refine gv_ix hq (hs _ _ rfl) rfl h 939 rfl (fun h => ?_)
  obtain ⟨r42, h1, h⟩ := Option.bind_eq_some_iff.mp h
  refine gv_d hq (hs _ _ rfl) rfl rfl rfl rfl (gv_dd (by omega) (t_M_shuts X F (d - 1) (by omega) E _ _ _ h1)) (S' := (942, [some (.ref 2001), some (.ref 0), some (.ref 116), some (.int l3)], [.int r42.1, .int r41.1], r42.2, E)) rfl ?_
  refine gv_b hq (hs _ _ rfl) h 2168 945 rfl rfl rfl (fun h => ?_) (fun h => ?_)
  · exact gv_w (tb_law_2168 X F d hd k18 K18 _ _ _ _ h) (And.intro rfl (And.intro rfl (And.intro rfl (And.intro rfl trivial))))
  · refine gw_n hq hs 1 (S' := (946, [some (.ref 2001), some (.ref 0), some (.ref 116), some (.int l3)], [.int (nI 0)], r42.2, E)) rfl ?_
    cases h
    exact ev_ret hq (hs _ _ rfl) rfl ⟨rfl, rfl, rfl⟩
set_option maxRecDepth 100000 in
set_option maxHeartbeats 4000000 in
theorem tb_law_947 (X : ev_X) (F : Nat) (d : Nat) (hd : 105 ≤ d + 1) (k18 : Int32 → mx_D → mx_E → Option (Int32 × mx_D × mx_E)) (K18 : ∀ (l3 : Int32) (D : mx_D) (E : mx_E) (v : Int32 × mx_D × mx_E), k18 l3 D E = some v → ev X (d + 1) 337 (18, [some (.ref 2001), some (.ref 0), some (.ref 116), some (.int l3)], [], D, E) (qR (some (.int v.1)) v.2.1 v.2.2)) (l3 : Int32) (D : mx_D) (E : mx_E) (v : Int32 × mx_D × mx_E) (h : b_law_947 F X k18 l3 D E = some v) : ev X (d + 1) 337 (947, [some (.ref 2001), some (.ref 0), some (.ref 116), some (.int l3)], [], D, E) (qR (some (.int v.1)) v.2.1 v.2.2) := by
  have hq : kq_m 337 = some kq_q337 := rfl
  unfold b_law_947 at h
  have hs := lc_s13
  refine gw_n hq hs 5 (S' := (952, [some (.ref 2001), some (.ref 0), some (.ref 116), some (.int l3)], [.int (l3 + (nI 1)), .ref 2001, .ref 0], D, E)) rfl ?_
  refine gv_ix hq (hs _ _ rfl) rfl h 953 rfl (fun h => ?_)
  refine gw_n hq hs 4 (S' := (957, [some (.ref 2001), some (.ref 0), some (.ref 116), some (.int l3)], [.int (l3 + (nI 2)), .ref 2001, .int (X.2 ((l3 + (nI 1))).toNatClampNeg), .ref 0], D, E)) rfl ?_
  refine gv_ix hq (hs _ _ rfl) rfl h 958 rfl (fun h => ?_)
  obtain ⟨r43, h1, h⟩ := Option.bind_eq_some_iff.mp h
  refine gv_d hq (hs _ _ rfl) rfl rfl rfl rfl (gv_dd (by omega) (t_X_cut X (d - 1) (by omega) E _ _ _ _ h1)) (S' := (961, [some (.ref 2001), some (.ref 0), some (.ref 116), some (.int l3)], [.int r43.1], r43.2, E)) rfl ?_
  refine gw_n hq hs 5 (S' := (966, [some (.ref 2001), some (.ref 0), some (.ref 116), some (.int l3)], [.int (l3 + (nI 1)), .ref 2001, .ref 116, .int r43.1], r43.2, E)) rfl ?_
  refine gv_ix hq (hs _ _ rfl) rfl h 967 rfl (fun h => ?_)
  refine gw_n hq hs 4 (S' := (971, [some (.ref 2001), some (.ref 0), some (.ref 116), some (.int l3)], [.int (l3 + (nI 2)), .ref 2001, .int (X.2 ((l3 + (nI 1))).toNatClampNeg), .ref 116, .int r43.1], r43.2, E)) rfl ?_
  refine gv_ix hq (hs _ _ rfl) rfl h 972 rfl (fun h => ?_)
  obtain ⟨r44, h1, h⟩ := Option.bind_eq_some_iff.mp h
  refine gv_d hq (hs _ _ rfl) rfl rfl rfl rfl (gv_dd (by omega) (t_M_cut X (d - 1) (by omega) E _ _ _ _ h1)) (S' := (975, [some (.ref 2001), some (.ref 0), some (.ref 116), some (.int l3)], [.int r44.1, .int r43.1], r44.2, E)) rfl ?_
  refine gv_b hq (hs _ _ rfl) h 2168 978 rfl rfl rfl (fun h => ?_) (fun h => ?_)
  · exact gv_w (tb_law_2168 X F d hd k18 K18 _ _ _ _ h) (And.intro rfl (And.intro rfl (And.intro rfl (And.intro rfl trivial))))
  · refine gw_n hq hs 1 (S' := (979, [some (.ref 2001), some (.ref 0), some (.ref 116), some (.int l3)], [.int (nI 0)], r44.2, E)) rfl ?_
    cases h
    exact ev_ret hq (hs _ _ rfl) rfl ⟨rfl, rfl, rfl⟩
set_option maxRecDepth 100000 in
set_option maxHeartbeats 4000000 in
theorem tb_law_980 (X : ev_X) (F : Nat) (d : Nat) (hd : 105 ≤ d + 1) (k18 : Int32 → mx_D → mx_E → Option (Int32 × mx_D × mx_E)) (K18 : ∀ (l3 : Int32) (D : mx_D) (E : mx_E) (v : Int32 × mx_D × mx_E), k18 l3 D E = some v → ev X (d + 1) 337 (18, [some (.ref 2001), some (.ref 0), some (.ref 116), some (.int l3)], [], D, E) (qR (some (.int v.1)) v.2.1 v.2.2)) (l3 : Int32) (D : mx_D) (E : mx_E) (v : Int32 × mx_D × mx_E) (h : b_law_980 F X k18 l3 D E = some v) : ev X (d + 1) 337 (980, [some (.ref 2001), some (.ref 0), some (.ref 116), some (.int l3)], [], D, E) (qR (some (.int v.1)) v.2.1 v.2.2) := by
  have hq : kq_m 337 = some kq_q337 := rfl
  unfold b_law_980 at h
  have hs := lc_s14
  refine gw_n hq hs 5 (S' := (985, [some (.ref 2001), some (.ref 0), some (.ref 116), some (.int l3)], [.int (l3 + (nI 1)), .ref 2001, .ref 0], D, E)) rfl ?_
  refine gv_ix hq (hs _ _ rfl) rfl h 986 rfl (fun h => ?_)
  obtain ⟨r45, h1, h⟩ := Option.bind_eq_some_iff.mp h
  refine gv_d hq (hs _ _ rfl) rfl rfl rfl rfl (gv_dd (by omega) (t_X_books X F (d - 1) (by omega) E _ _ _ h1)) (S' := (989, [some (.ref 2001), some (.ref 0), some (.ref 116), some (.int l3)], [.int r45.1], r45.2, E)) rfl ?_
  refine gw_n hq hs 5 (S' := (994, [some (.ref 2001), some (.ref 0), some (.ref 116), some (.int l3)], [.int (l3 + (nI 1)), .ref 2001, .ref 116, .int r45.1], r45.2, E)) rfl ?_
  refine gv_ix hq (hs _ _ rfl) rfl h 995 rfl (fun h => ?_)
  obtain ⟨r46, h1, h⟩ := Option.bind_eq_some_iff.mp h
  refine gv_d hq (hs _ _ rfl) rfl rfl rfl rfl (gv_dd (by omega) (t_M_books X F (d - 1) (by omega) E _ _ _ h1)) (S' := (998, [some (.ref 2001), some (.ref 0), some (.ref 116), some (.int l3)], [.int r46.1, .int r45.1], r46.2, E)) rfl ?_
  refine gv_b hq (hs _ _ rfl) h 2168 1001 rfl rfl rfl (fun h => ?_) (fun h => ?_)
  · exact gv_w (tb_law_2168 X F d hd k18 K18 _ _ _ _ h) (And.intro rfl (And.intro rfl (And.intro rfl (And.intro rfl trivial))))
  · refine gw_n hq hs 1 (S' := (1002, [some (.ref 2001), some (.ref 0), some (.ref 116), some (.int l3)], [.int (nI 0)], r46.2, E)) rfl ?_
    cases h
    exact ev_ret hq (hs _ _ rfl) rfl ⟨rfl, rfl, rfl⟩
set_option maxRecDepth 100000 in
set_option maxHeartbeats 4000000 in
theorem tb_law_1003 (X : ev_X) (F : Nat) (d : Nat) (hd : 105 ≤ d + 1) (k18 : Int32 → mx_D → mx_E → Option (Int32 × mx_D × mx_E)) (K18 : ∀ (l3 : Int32) (D : mx_D) (E : mx_E) (v : Int32 × mx_D × mx_E), k18 l3 D E = some v → ev X (d + 1) 337 (18, [some (.ref 2001), some (.ref 0), some (.ref 116), some (.int l3)], [], D, E) (qR (some (.int v.1)) v.2.1 v.2.2)) (l3 : Int32) (D : mx_D) (E : mx_E) (v : Int32 × mx_D × mx_E) (h : b_law_1003 F X k18 l3 D E = some v) : ev X (d + 1) 337 (1003, [some (.ref 2001), some (.ref 0), some (.ref 116), some (.int l3)], [], D, E) (qR (some (.int v.1)) v.2.1 v.2.2) := by
  have hq : kq_m 337 = some kq_q337 := rfl
  unfold b_law_1003 at h
  have hs := lc_s14
  refine gw_n hq hs 5 (S' := (1008, [some (.ref 2001), some (.ref 0), some (.ref 116), some (.int l3)], [.int (l3 + (nI 1)), .ref 2001, .ref 0], D, E)) rfl ?_
  refine gv_ix hq (hs _ _ rfl) rfl h 1009 rfl (fun h => ?_)
  refine gw_n hq hs 4 (S' := (1013, [some (.ref 2001), some (.ref 0), some (.ref 116), some (.int l3)], [.int (l3 + (nI 2)), .ref 2001, .int (X.2 ((l3 + (nI 1))).toNatClampNeg), .ref 0], D, E)) rfl ?_
  refine gv_ix hq (hs _ _ rfl) rfl h 1014 rfl (fun h => ?_)
  obtain ⟨r47, h1, h⟩ := Option.bind_eq_some_iff.mp h
  refine gv_d hq (hs _ _ rfl) rfl rfl rfl rfl (gv_dd (by omega) (t_X_given X F (d - 1) (by omega) E _ _ _ _ h1)) (S' := (1017, [some (.ref 2001), some (.ref 0), some (.ref 116), some (.int l3)], [.int r47.1], r47.2, E)) rfl ?_
  refine gw_n hq hs 5 (S' := (1022, [some (.ref 2001), some (.ref 0), some (.ref 116), some (.int l3)], [.int (l3 + (nI 1)), .ref 2001, .ref 116, .int r47.1], r47.2, E)) rfl ?_
  refine gv_ix hq (hs _ _ rfl) rfl h 1023 rfl (fun h => ?_)
  refine gw_n hq hs 4 (S' := (1027, [some (.ref 2001), some (.ref 0), some (.ref 116), some (.int l3)], [.int (l3 + (nI 2)), .ref 2001, .int (X.2 ((l3 + (nI 1))).toNatClampNeg), .ref 116, .int r47.1], r47.2, E)) rfl ?_
  refine gv_ix hq (hs _ _ rfl) rfl h 1028 rfl (fun h => ?_)
  obtain ⟨r48, h1, h⟩ := Option.bind_eq_some_iff.mp h
  refine gv_d hq (hs _ _ rfl) rfl rfl rfl rfl (gv_dd (by omega) (t_M_given X F (d - 1) (by omega) E _ _ _ _ h1)) (S' := (1031, [some (.ref 2001), some (.ref 0), some (.ref 116), some (.int l3)], [.int r48.1, .int r47.1], r48.2, E)) rfl ?_
  refine gv_b hq (hs _ _ rfl) h 2168 1034 rfl rfl rfl (fun h => ?_) (fun h => ?_)
  · exact gv_w (tb_law_2168 X F d hd k18 K18 _ _ _ _ h) (And.intro rfl (And.intro rfl (And.intro rfl (And.intro rfl trivial))))
  · refine gw_n hq hs 1 (S' := (1035, [some (.ref 2001), some (.ref 0), some (.ref 116), some (.int l3)], [.int (nI 0)], r48.2, E)) rfl ?_
    cases h
    exact ev_ret hq (hs _ _ rfl) rfl ⟨rfl, rfl, rfl⟩
set_option maxRecDepth 100000 in
set_option maxHeartbeats 4000000 in
theorem tb_law_1036 (X : ev_X) (F : Nat) (d : Nat) (hd : 105 ≤ d + 1) (k18 : Int32 → mx_D → mx_E → Option (Int32 × mx_D × mx_E)) (K18 : ∀ (l3 : Int32) (D : mx_D) (E : mx_E) (v : Int32 × mx_D × mx_E), k18 l3 D E = some v → ev X (d + 1) 337 (18, [some (.ref 2001), some (.ref 0), some (.ref 116), some (.int l3)], [], D, E) (qR (some (.int v.1)) v.2.1 v.2.2)) (l3 : Int32) (D : mx_D) (E : mx_E) (v : Int32 × mx_D × mx_E) (h : b_law_1036 F X k18 l3 D E = some v) : ev X (d + 1) 337 (1036, [some (.ref 2001), some (.ref 0), some (.ref 116), some (.int l3)], [], D, E) (qR (some (.int v.1)) v.2.1 v.2.2) := by
  have hq : kq_m 337 = some kq_q337 := rfl
  unfold b_law_1036 at h
  have hs := lc_s15
  refine gw_n hq hs 5 (S' := (1041, [some (.ref 2001), some (.ref 0), some (.ref 116), some (.int l3)], [.int (l3 + (nI 1)), .ref 2001, .ref 0], D, E)) rfl ?_
  refine gv_ix hq (hs _ _ rfl) rfl h 1042 rfl (fun h => ?_)
  obtain ⟨r49, h1, h⟩ := Option.bind_eq_some_iff.mp h
  refine gv_d hq (hs _ _ rfl) rfl rfl rfl rfl (gv_dd (by omega) (t_X_gifts X F (d - 1) (by omega) E _ _ _ h1)) (S' := (1045, [some (.ref 2001), some (.ref 0), some (.ref 116), some (.int l3)], [.int r49.1], r49.2, E)) rfl ?_
  refine gw_n hq hs 5 (S' := (1050, [some (.ref 2001), some (.ref 0), some (.ref 116), some (.int l3)], [.int (l3 + (nI 1)), .ref 2001, .ref 116, .int r49.1], r49.2, E)) rfl ?_
  refine gv_ix hq (hs _ _ rfl) rfl h 1051 rfl (fun h => ?_)
  obtain ⟨r50, h1, h⟩ := Option.bind_eq_some_iff.mp h
  refine gv_d hq (hs _ _ rfl) rfl rfl rfl rfl (gv_dd (by omega) (t_M_gifts X F (d - 1) (by omega) E _ _ _ h1)) (S' := (1054, [some (.ref 2001), some (.ref 0), some (.ref 116), some (.int l3)], [.int r50.1, .int r49.1], r50.2, E)) rfl ?_
  refine gv_b hq (hs _ _ rfl) h 2168 1057 rfl rfl rfl (fun h => ?_) (fun h => ?_)
  · exact gv_w (tb_law_2168 X F d hd k18 K18 _ _ _ _ h) (And.intro rfl (And.intro rfl (And.intro rfl (And.intro rfl trivial))))
  · refine gw_n hq hs 1 (S' := (1058, [some (.ref 2001), some (.ref 0), some (.ref 116), some (.int l3)], [.int (nI 0)], r50.2, E)) rfl ?_
    cases h
    exact ev_ret hq (hs _ _ rfl) rfl ⟨rfl, rfl, rfl⟩
set_option maxRecDepth 100000 in
set_option maxHeartbeats 4000000 in
theorem tb_law_1059 (X : ev_X) (F : Nat) (d : Nat) (hd : 105 ≤ d + 1) (k18 : Int32 → mx_D → mx_E → Option (Int32 × mx_D × mx_E)) (K18 : ∀ (l3 : Int32) (D : mx_D) (E : mx_E) (v : Int32 × mx_D × mx_E), k18 l3 D E = some v → ev X (d + 1) 337 (18, [some (.ref 2001), some (.ref 0), some (.ref 116), some (.int l3)], [], D, E) (qR (some (.int v.1)) v.2.1 v.2.2)) (l3 : Int32) (D : mx_D) (E : mx_E) (v : Int32 × mx_D × mx_E) (h : b_law_1059 F X k18 l3 D E = some v) : ev X (d + 1) 337 (1059, [some (.ref 2001), some (.ref 0), some (.ref 116), some (.int l3)], [], D, E) (qR (some (.int v.1)) v.2.1 v.2.2) := by
  have hq : kq_m 337 = some kq_q337 := rfl
  unfold b_law_1059 at h
  have hs := lc_s15
  refine gw_n hq hs 5 (S' := (1064, [some (.ref 2001), some (.ref 0), some (.ref 116), some (.int l3)], [.int (l3 + (nI 1)), .ref 2001, .ref 0], D, E)) rfl ?_
  refine gv_ix hq (hs _ _ rfl) rfl h 1065 rfl (fun h => ?_)
  obtain ⟨r51, h1, h⟩ := Option.bind_eq_some_iff.mp h
  refine gv_d hq (hs _ _ rfl) rfl rfl rfl rfl (gv_dd (by omega) (t_X_hats X F (d - 1) (by omega) E _ _ _ h1)) (S' := (1068, [some (.ref 2001), some (.ref 0), some (.ref 116), some (.int l3)], [.int r51.1], r51.2, E)) rfl ?_
  refine gw_n hq hs 5 (S' := (1073, [some (.ref 2001), some (.ref 0), some (.ref 116), some (.int l3)], [.int (l3 + (nI 1)), .ref 2001, .ref 116, .int r51.1], r51.2, E)) rfl ?_
  refine gv_ix hq (hs _ _ rfl) rfl h 1074 rfl (fun h => ?_)
  obtain ⟨r52, h1, h⟩ := Option.bind_eq_some_iff.mp h
  refine gv_d hq (hs _ _ rfl) rfl rfl rfl rfl (gv_dd (by omega) (t_M_hats X F (d - 1) (by omega) E _ _ _ h1)) (S' := (1077, [some (.ref 2001), some (.ref 0), some (.ref 116), some (.int l3)], [.int r52.1, .int r51.1], r52.2, E)) rfl ?_
  refine gv_b hq (hs _ _ rfl) h 2168 1080 rfl rfl rfl (fun h => ?_) (fun h => ?_)
  · exact gv_w (tb_law_2168 X F d hd k18 K18 _ _ _ _ h) (And.intro rfl (And.intro rfl (And.intro rfl (And.intro rfl trivial))))
  · refine gw_n hq hs 1 (S' := (1081, [some (.ref 2001), some (.ref 0), some (.ref 116), some (.int l3)], [.int (nI 0)], r52.2, E)) rfl ?_
    cases h
    exact ev_ret hq (hs _ _ rfl) rfl ⟨rfl, rfl, rfl⟩
set_option maxRecDepth 100000 in
set_option maxHeartbeats 4000000 in
theorem tb_law_1082 (X : ev_X) (F : Nat) (d : Nat) (hd : 105 ≤ d + 1) (k18 : Int32 → mx_D → mx_E → Option (Int32 × mx_D × mx_E)) (K18 : ∀ (l3 : Int32) (D : mx_D) (E : mx_E) (v : Int32 × mx_D × mx_E), k18 l3 D E = some v → ev X (d + 1) 337 (18, [some (.ref 2001), some (.ref 0), some (.ref 116), some (.int l3)], [], D, E) (qR (some (.int v.1)) v.2.1 v.2.2)) (l3 : Int32) (D : mx_D) (E : mx_E) (v : Int32 × mx_D × mx_E) (h : b_law_1082 F X k18 l3 D E = some v) : ev X (d + 1) 337 (1082, [some (.ref 2001), some (.ref 0), some (.ref 116), some (.int l3)], [], D, E) (qR (some (.int v.1)) v.2.1 v.2.2) := by
  have hq : kq_m 337 = some kq_q337 := rfl
  unfold b_law_1082 at h
  have hs := lc_s16
  refine gw_n hq hs 5 (S' := (1087, [some (.ref 2001), some (.ref 0), some (.ref 116), some (.int l3)], [.int (l3 + (nI 1)), .ref 2001, .ref 0], D, E)) rfl ?_
  refine gv_ix hq (hs _ _ rfl) rfl h 1088 rfl (fun h => ?_)
  refine gw_n hq hs 4 (S' := (1092, [some (.ref 2001), some (.ref 0), some (.ref 116), some (.int l3)], [.int (l3 + (nI 2)), .ref 2001, .int (X.2 ((l3 + (nI 1))).toNatClampNeg), .ref 0], D, E)) rfl ?_
  refine gv_ix hq (hs _ _ rfl) rfl h 1093 rfl (fun h => ?_)
  obtain ⟨r53, h1, h⟩ := Option.bind_eq_some_iff.mp h
  refine gv_d hq (hs _ _ rfl) rfl rfl rfl rfl (gv_dd (by omega) (t_X_handed X F (d - 1) (by omega) E _ _ _ _ h1)) (S' := (1096, [some (.ref 2001), some (.ref 0), some (.ref 116), some (.int l3)], [.int r53.1], r53.2, E)) rfl ?_
  refine gw_n hq hs 5 (S' := (1101, [some (.ref 2001), some (.ref 0), some (.ref 116), some (.int l3)], [.int (l3 + (nI 1)), .ref 2001, .ref 116, .int r53.1], r53.2, E)) rfl ?_
  refine gv_ix hq (hs _ _ rfl) rfl h 1102 rfl (fun h => ?_)
  refine gw_n hq hs 4 (S' := (1106, [some (.ref 2001), some (.ref 0), some (.ref 116), some (.int l3)], [.int (l3 + (nI 2)), .ref 2001, .int (X.2 ((l3 + (nI 1))).toNatClampNeg), .ref 116, .int r53.1], r53.2, E)) rfl ?_
  refine gv_ix hq (hs _ _ rfl) rfl h 1107 rfl (fun h => ?_)
  obtain ⟨r54, h1, h⟩ := Option.bind_eq_some_iff.mp h
  refine gv_d hq (hs _ _ rfl) rfl rfl rfl rfl (gv_dd (by omega) (t_M_handed X F (d - 1) (by omega) E _ _ _ _ h1)) (S' := (1110, [some (.ref 2001), some (.ref 0), some (.ref 116), some (.int l3)], [.int r54.1, .int r53.1], r54.2, E)) rfl ?_
  refine gv_b hq (hs _ _ rfl) h 2168 1113 rfl rfl rfl (fun h => ?_) (fun h => ?_)
  · exact gv_w (tb_law_2168 X F d hd k18 K18 _ _ _ _ h) (And.intro rfl (And.intro rfl (And.intro rfl (And.intro rfl trivial))))
  · refine gw_n hq hs 1 (S' := (1114, [some (.ref 2001), some (.ref 0), some (.ref 116), some (.int l3)], [.int (nI 0)], r54.2, E)) rfl ?_
    cases h
    exact ev_ret hq (hs _ _ rfl) rfl ⟨rfl, rfl, rfl⟩
set_option maxRecDepth 100000 in
set_option maxHeartbeats 4000000 in
theorem tb_law_1115 (X : ev_X) (F : Nat) (d : Nat) (hd : 105 ≤ d + 1) (k18 : Int32 → mx_D → mx_E → Option (Int32 × mx_D × mx_E)) (K18 : ∀ (l3 : Int32) (D : mx_D) (E : mx_E) (v : Int32 × mx_D × mx_E), k18 l3 D E = some v → ev X (d + 1) 337 (18, [some (.ref 2001), some (.ref 0), some (.ref 116), some (.int l3)], [], D, E) (qR (some (.int v.1)) v.2.1 v.2.2)) (l3 : Int32) (D : mx_D) (E : mx_E) (v : Int32 × mx_D × mx_E) (h : b_law_1115 F X k18 l3 D E = some v) : ev X (d + 1) 337 (1115, [some (.ref 2001), some (.ref 0), some (.ref 116), some (.int l3)], [], D, E) (qR (some (.int v.1)) v.2.1 v.2.2) := by
  have hq : kq_m 337 = some kq_q337 := rfl
  unfold b_law_1115 at h
  have hs := lc_s16
  refine gw_n hq hs 5 (S' := (1120, [some (.ref 2001), some (.ref 0), some (.ref 116), some (.int l3)], [.int (l3 + (nI 1)), .ref 2001, .ref 0], D, E)) rfl ?_
  refine gv_ix hq (hs _ _ rfl) rfl h 1121 rfl (fun h => ?_)
  refine gw_n hq hs 4 (S' := (1125, [some (.ref 2001), some (.ref 0), some (.ref 116), some (.int l3)], [.int (l3 + (nI 2)), .ref 2001, .int (X.2 ((l3 + (nI 1))).toNatClampNeg), .ref 0], D, E)) rfl ?_
  refine gv_ix hq (hs _ _ rfl) rfl h 1126 rfl (fun h => ?_)
  obtain ⟨r55, h1, h⟩ := Option.bind_eq_some_iff.mp h
  refine gv_d hq (hs _ _ rfl) rfl rfl rfl rfl (gv_dd (by omega) (t_X_rings X F (d - 1) (by omega) E _ _ _ _ h1)) (S' := (1129, [some (.ref 2001), some (.ref 0), some (.ref 116), some (.int l3)], [.int r55.1], r55.2, E)) rfl ?_
  refine gw_n hq hs 5 (S' := (1134, [some (.ref 2001), some (.ref 0), some (.ref 116), some (.int l3)], [.int (l3 + (nI 1)), .ref 2001, .ref 116, .int r55.1], r55.2, E)) rfl ?_
  refine gv_ix hq (hs _ _ rfl) rfl h 1135 rfl (fun h => ?_)
  refine gw_n hq hs 4 (S' := (1139, [some (.ref 2001), some (.ref 0), some (.ref 116), some (.int l3)], [.int (l3 + (nI 2)), .ref 2001, .int (X.2 ((l3 + (nI 1))).toNatClampNeg), .ref 116, .int r55.1], r55.2, E)) rfl ?_
  refine gv_ix hq (hs _ _ rfl) rfl h 1140 rfl (fun h => ?_)
  obtain ⟨r56, h1, h⟩ := Option.bind_eq_some_iff.mp h
  refine gv_d hq (hs _ _ rfl) rfl rfl rfl rfl (gv_dd (by omega) (t_M_rings X F (d - 1) (by omega) E _ _ _ _ h1)) (S' := (1143, [some (.ref 2001), some (.ref 0), some (.ref 116), some (.int l3)], [.int r56.1, .int r55.1], r56.2, E)) rfl ?_
  refine gv_b hq (hs _ _ rfl) h 2168 1146 rfl rfl rfl (fun h => ?_) (fun h => ?_)
  · exact gv_w (tb_law_2168 X F d hd k18 K18 _ _ _ _ h) (And.intro rfl (And.intro rfl (And.intro rfl (And.intro rfl trivial))))
  · refine gw_n hq hs 1 (S' := (1147, [some (.ref 2001), some (.ref 0), some (.ref 116), some (.int l3)], [.int (nI 0)], r56.2, E)) rfl ?_
    cases h
    exact ev_ret hq (hs _ _ rfl) rfl ⟨rfl, rfl, rfl⟩
set_option maxRecDepth 100000 in
set_option maxHeartbeats 4000000 in
theorem tb_law_1148 (X : ev_X) (F : Nat) (d : Nat) (hd : 105 ≤ d + 1) (k18 : Int32 → mx_D → mx_E → Option (Int32 × mx_D × mx_E)) (K18 : ∀ (l3 : Int32) (D : mx_D) (E : mx_E) (v : Int32 × mx_D × mx_E), k18 l3 D E = some v → ev X (d + 1) 337 (18, [some (.ref 2001), some (.ref 0), some (.ref 116), some (.int l3)], [], D, E) (qR (some (.int v.1)) v.2.1 v.2.2)) (l3 : Int32) (D : mx_D) (E : mx_E) (v : Int32 × mx_D × mx_E) (h : b_law_1148 F X k18 l3 D E = some v) : ev X (d + 1) 337 (1148, [some (.ref 2001), some (.ref 0), some (.ref 116), some (.int l3)], [], D, E) (qR (some (.int v.1)) v.2.1 v.2.2) := by
  have hq : kq_m 337 = some kq_q337 := rfl
  unfold b_law_1148 at h
  have hs := lc_s17
  refine gw_n hq hs 1 (S' := (1149, [some (.ref 2001), some (.ref 0), some (.ref 116), some (.int l3)], [.ref 0], D, E)) rfl ?_
  obtain ⟨r57, h1, h⟩ := Option.bind_eq_some_iff.mp h
  refine gv_d hq (hs _ _ rfl) rfl rfl rfl rfl (gv_dd (by omega) (t_X_bare X F (d - 1) (by omega) D E _ h1)) (S' := (1152, [some (.ref 2001), some (.ref 0), some (.ref 116), some (.int l3)], [.int r57], D, E)) rfl ?_
  refine gw_n hq hs 1 (S' := (1153, [some (.ref 2001), some (.ref 0), some (.ref 116), some (.int l3)], [.ref 116, .int r57], D, E)) rfl ?_
  obtain ⟨r58, h1, h⟩ := Option.bind_eq_some_iff.mp h
  refine gv_d hq (hs _ _ rfl) rfl rfl rfl rfl (gv_dd (by omega) (t_M_bare X F (d - 1) (by omega) D E _ h1)) (S' := (1156, [some (.ref 2001), some (.ref 0), some (.ref 116), some (.int l3)], [.int r58, .int r57], D, E)) rfl ?_
  refine gv_b hq (hs _ _ rfl) h 2168 1159 rfl rfl rfl (fun h => ?_) (fun h => ?_)
  · exact gv_w (tb_law_2168 X F d hd k18 K18 _ _ _ _ h) (And.intro rfl (And.intro rfl (And.intro rfl (And.intro rfl trivial))))
  · refine gw_n hq hs 1 (S' := (1160, [some (.ref 2001), some (.ref 0), some (.ref 116), some (.int l3)], [.int (nI 0)], D, E)) rfl ?_
    cases h
    exact ev_ret hq (hs _ _ rfl) rfl ⟨rfl, rfl, rfl⟩
set_option maxRecDepth 100000 in
set_option maxHeartbeats 4000000 in
theorem tb_law_1161 (X : ev_X) (F : Nat) (d : Nat) (hd : 105 ≤ d + 1) (k18 : Int32 → mx_D → mx_E → Option (Int32 × mx_D × mx_E)) (K18 : ∀ (l3 : Int32) (D : mx_D) (E : mx_E) (v : Int32 × mx_D × mx_E), k18 l3 D E = some v → ev X (d + 1) 337 (18, [some (.ref 2001), some (.ref 0), some (.ref 116), some (.int l3)], [], D, E) (qR (some (.int v.1)) v.2.1 v.2.2)) (l3 : Int32) (D : mx_D) (E : mx_E) (v : Int32 × mx_D × mx_E) (h : b_law_1161 F X k18 l3 D E = some v) : ev X (d + 1) 337 (1161, [some (.ref 2001), some (.ref 0), some (.ref 116), some (.int l3)], [], D, E) (qR (some (.int v.1)) v.2.1 v.2.2) := by
  have hq : kq_m 337 = some kq_q337 := rfl
  unfold b_law_1161 at h
  have hs := lc_s17
  refine gw_n hq hs 5 (S' := (1166, [some (.ref 2001), some (.ref 0), some (.ref 116), some (.int l3)], [.int (l3 + (nI 1)), .ref 2001, .ref 0], D, E)) rfl ?_
  refine gv_ix hq (hs _ _ rfl) rfl h 1167 rfl (fun h => ?_)
  obtain ⟨r59, h1, h⟩ := Option.bind_eq_some_iff.mp h
  refine gv_d hq (hs _ _ rfl) rfl rfl rfl rfl (gv_dd (by omega) (t_X_kinds X F (d - 1) (by omega) E _ _ _ h1)) (S' := (1170, [some (.ref 2001), some (.ref 0), some (.ref 116), some (.int l3)], [.int r59.1], r59.2, E)) rfl ?_
  refine gw_n hq hs 5 (S' := (1175, [some (.ref 2001), some (.ref 0), some (.ref 116), some (.int l3)], [.int (l3 + (nI 1)), .ref 2001, .ref 116, .int r59.1], r59.2, E)) rfl ?_
  refine gv_ix hq (hs _ _ rfl) rfl h 1176 rfl (fun h => ?_)
  obtain ⟨r60, h1, h⟩ := Option.bind_eq_some_iff.mp h
  refine gv_d hq (hs _ _ rfl) rfl rfl rfl rfl (gv_dd (by omega) (t_M_kinds X F (d - 1) (by omega) E _ _ _ h1)) (S' := (1179, [some (.ref 2001), some (.ref 0), some (.ref 116), some (.int l3)], [.int r60.1, .int r59.1], r60.2, E)) rfl ?_
  refine gv_b hq (hs _ _ rfl) h 2168 1182 rfl rfl rfl (fun h => ?_) (fun h => ?_)
  · exact gv_w (tb_law_2168 X F d hd k18 K18 _ _ _ _ h) (And.intro rfl (And.intro rfl (And.intro rfl (And.intro rfl trivial))))
  · refine gw_n hq hs 1 (S' := (1183, [some (.ref 2001), some (.ref 0), some (.ref 116), some (.int l3)], [.int (nI 0)], r60.2, E)) rfl ?_
    cases h
    exact ev_ret hq (hs _ _ rfl) rfl ⟨rfl, rfl, rfl⟩
set_option maxRecDepth 100000 in
set_option maxHeartbeats 4000000 in
theorem tb_law_1184 (X : ev_X) (F : Nat) (d : Nat) (hd : 105 ≤ d + 1) (k18 : Int32 → mx_D → mx_E → Option (Int32 × mx_D × mx_E)) (K18 : ∀ (l3 : Int32) (D : mx_D) (E : mx_E) (v : Int32 × mx_D × mx_E), k18 l3 D E = some v → ev X (d + 1) 337 (18, [some (.ref 2001), some (.ref 0), some (.ref 116), some (.int l3)], [], D, E) (qR (some (.int v.1)) v.2.1 v.2.2)) (l3 : Int32) (D : mx_D) (E : mx_E) (v : Int32 × mx_D × mx_E) (h : b_law_1184 F X k18 l3 D E = some v) : ev X (d + 1) 337 (1184, [some (.ref 2001), some (.ref 0), some (.ref 116), some (.int l3)], [], D, E) (qR (some (.int v.1)) v.2.1 v.2.2) := by
  have hq : kq_m 337 = some kq_q337 := rfl
  unfold b_law_1184 at h
  have hs := lc_s18
  refine gw_n hq hs 5 (S' := (1189, [some (.ref 2001), some (.ref 0), some (.ref 116), some (.int l3)], [.int (l3 + (nI 1)), .ref 2001, .ref 0], D, E)) rfl ?_
  refine gv_ix hq (hs _ _ rfl) rfl h 1190 rfl (fun h => ?_)
  refine gw_n hq hs 4 (S' := (1194, [some (.ref 2001), some (.ref 0), some (.ref 116), some (.int l3)], [.int (l3 + (nI 2)), .ref 2001, .int (X.2 ((l3 + (nI 1))).toNatClampNeg), .ref 0], D, E)) rfl ?_
  refine gv_ix hq (hs _ _ rfl) rfl h 1195 rfl (fun h => ?_)
  obtain ⟨r61, h1, h⟩ := Option.bind_eq_some_iff.mp h
  refine gv_d hq (hs _ _ rfl) rfl rfl rfl rfl (gv_dd (by omega) (t_X_wide X F (d - 1) (by omega) E _ _ _ _ h1)) (S' := (1198, [some (.ref 2001), some (.ref 0), some (.ref 116), some (.int l3)], [.int r61.1], r61.2, E)) rfl ?_
  refine gw_n hq hs 5 (S' := (1203, [some (.ref 2001), some (.ref 0), some (.ref 116), some (.int l3)], [.int (l3 + (nI 1)), .ref 2001, .ref 116, .int r61.1], r61.2, E)) rfl ?_
  refine gv_ix hq (hs _ _ rfl) rfl h 1204 rfl (fun h => ?_)
  refine gw_n hq hs 4 (S' := (1208, [some (.ref 2001), some (.ref 0), some (.ref 116), some (.int l3)], [.int (l3 + (nI 2)), .ref 2001, .int (X.2 ((l3 + (nI 1))).toNatClampNeg), .ref 116, .int r61.1], r61.2, E)) rfl ?_
  refine gv_ix hq (hs _ _ rfl) rfl h 1209 rfl (fun h => ?_)
  obtain ⟨r62, h1, h⟩ := Option.bind_eq_some_iff.mp h
  refine gv_d hq (hs _ _ rfl) rfl rfl rfl rfl (gv_dd (by omega) (t_M_wide X F (d - 1) (by omega) E _ _ _ _ h1)) (S' := (1212, [some (.ref 2001), some (.ref 0), some (.ref 116), some (.int l3)], [.int r62.1, .int r61.1], r62.2, E)) rfl ?_
  refine gv_b hq (hs _ _ rfl) h 2168 1215 rfl rfl rfl (fun h => ?_) (fun h => ?_)
  · exact gv_w (tb_law_2168 X F d hd k18 K18 _ _ _ _ h) (And.intro rfl (And.intro rfl (And.intro rfl (And.intro rfl trivial))))
  · refine gw_n hq hs 1 (S' := (1216, [some (.ref 2001), some (.ref 0), some (.ref 116), some (.int l3)], [.int (nI 0)], r62.2, E)) rfl ?_
    cases h
    exact ev_ret hq (hs _ _ rfl) rfl ⟨rfl, rfl, rfl⟩
set_option maxRecDepth 100000 in
set_option maxHeartbeats 4000000 in
theorem tb_law_1217 (X : ev_X) (F : Nat) (d : Nat) (hd : 105 ≤ d + 1) (k18 : Int32 → mx_D → mx_E → Option (Int32 × mx_D × mx_E)) (K18 : ∀ (l3 : Int32) (D : mx_D) (E : mx_E) (v : Int32 × mx_D × mx_E), k18 l3 D E = some v → ev X (d + 1) 337 (18, [some (.ref 2001), some (.ref 0), some (.ref 116), some (.int l3)], [], D, E) (qR (some (.int v.1)) v.2.1 v.2.2)) (l3 : Int32) (D : mx_D) (E : mx_E) (v : Int32 × mx_D × mx_E) (h : b_law_1217 F X k18 l3 D E = some v) : ev X (d + 1) 337 (1217, [some (.ref 2001), some (.ref 0), some (.ref 116), some (.int l3)], [], D, E) (qR (some (.int v.1)) v.2.1 v.2.2) := by
  have hq : kq_m 337 = some kq_q337 := rfl
  unfold b_law_1217 at h
  have hs := lc_s18
  refine gw_n hq hs 5 (S' := (1222, [some (.ref 2001), some (.ref 0), some (.ref 116), some (.int l3)], [.int (l3 + (nI 1)), .ref 2001, .ref 0], D, E)) rfl ?_
  refine gv_ix hq (hs _ _ rfl) rfl h 1223 rfl (fun h => ?_)
  obtain ⟨r63, h1, h⟩ := Option.bind_eq_some_iff.mp h
  refine gv_d hq (hs _ _ rfl) rfl rfl rfl rfl (gv_dd (by omega) (t_X_away X F (d - 1) (by omega) E _ _ _ h1)) (S' := (1226, [some (.ref 2001), some (.ref 0), some (.ref 116), some (.int l3)], [.int r63.1], r63.2, E)) rfl ?_
  refine gw_n hq hs 5 (S' := (1231, [some (.ref 2001), some (.ref 0), some (.ref 116), some (.int l3)], [.int (l3 + (nI 1)), .ref 2001, .ref 116, .int r63.1], r63.2, E)) rfl ?_
  refine gv_ix hq (hs _ _ rfl) rfl h 1232 rfl (fun h => ?_)
  obtain ⟨r64, h1, h⟩ := Option.bind_eq_some_iff.mp h
  refine gv_d hq (hs _ _ rfl) rfl rfl rfl rfl (gv_dd (by omega) (t_M_away X F (d - 1) (by omega) E _ _ _ h1)) (S' := (1235, [some (.ref 2001), some (.ref 0), some (.ref 116), some (.int l3)], [.int r64.1, .int r63.1], r64.2, E)) rfl ?_
  refine gv_b hq (hs _ _ rfl) h 2168 1238 rfl rfl rfl (fun h => ?_) (fun h => ?_)
  · exact gv_w (tb_law_2168 X F d hd k18 K18 _ _ _ _ h) (And.intro rfl (And.intro rfl (And.intro rfl (And.intro rfl trivial))))
  · refine gw_n hq hs 1 (S' := (1239, [some (.ref 2001), some (.ref 0), some (.ref 116), some (.int l3)], [.int (nI 0)], r64.2, E)) rfl ?_
    cases h
    exact ev_ret hq (hs _ _ rfl) rfl ⟨rfl, rfl, rfl⟩
set_option maxRecDepth 100000 in
set_option maxHeartbeats 4000000 in
theorem tb_law_1240 (X : ev_X) (F : Nat) (d : Nat) (hd : 105 ≤ d + 1) (k18 : Int32 → mx_D → mx_E → Option (Int32 × mx_D × mx_E)) (K18 : ∀ (l3 : Int32) (D : mx_D) (E : mx_E) (v : Int32 × mx_D × mx_E), k18 l3 D E = some v → ev X (d + 1) 337 (18, [some (.ref 2001), some (.ref 0), some (.ref 116), some (.int l3)], [], D, E) (qR (some (.int v.1)) v.2.1 v.2.2)) (l3 : Int32) (D : mx_D) (E : mx_E) (v : Int32 × mx_D × mx_E) (h : b_law_1240 F X k18 l3 D E = some v) : ev X (d + 1) 337 (1240, [some (.ref 2001), some (.ref 0), some (.ref 116), some (.int l3)], [], D, E) (qR (some (.int v.1)) v.2.1 v.2.2) := by
  have hq : kq_m 337 = some kq_q337 := rfl
  unfold b_law_1240 at h
  have hs := lc_s19
  refine gw_n hq hs 5 (S' := (1245, [some (.ref 2001), some (.ref 0), some (.ref 116), some (.int l3)], [.int (l3 + (nI 1)), .ref 2001, .ref 0], D, E)) rfl ?_
  refine gv_ix hq (hs _ _ rfl) rfl h 1246 rfl (fun h => ?_)
  obtain ⟨r65, h1, h⟩ := Option.bind_eq_some_iff.mp h
  refine gv_d hq (hs _ _ rfl) rfl rfl rfl rfl (gv_dd (by omega) (t_X_stay X F (d - 1) (by omega) E _ _ _ h1)) (S' := (1249, [some (.ref 2001), some (.ref 0), some (.ref 116), some (.int l3)], [.int r65.1], r65.2, E)) rfl ?_
  refine gw_n hq hs 5 (S' := (1254, [some (.ref 2001), some (.ref 0), some (.ref 116), some (.int l3)], [.int (l3 + (nI 1)), .ref 2001, .ref 116, .int r65.1], r65.2, E)) rfl ?_
  refine gv_ix hq (hs _ _ rfl) rfl h 1255 rfl (fun h => ?_)
  obtain ⟨r66, h1, h⟩ := Option.bind_eq_some_iff.mp h
  refine gv_d hq (hs _ _ rfl) rfl rfl rfl rfl (gv_dd (by omega) (t_M_stay X F (d - 1) (by omega) E _ _ _ h1)) (S' := (1258, [some (.ref 2001), some (.ref 0), some (.ref 116), some (.int l3)], [.int r66.1, .int r65.1], r66.2, E)) rfl ?_
  refine gv_b hq (hs _ _ rfl) h 2168 1261 rfl rfl rfl (fun h => ?_) (fun h => ?_)
  · exact gv_w (tb_law_2168 X F d hd k18 K18 _ _ _ _ h) (And.intro rfl (And.intro rfl (And.intro rfl (And.intro rfl trivial))))
  · refine gw_n hq hs 1 (S' := (1262, [some (.ref 2001), some (.ref 0), some (.ref 116), some (.int l3)], [.int (nI 0)], r66.2, E)) rfl ?_
    cases h
    exact ev_ret hq (hs _ _ rfl) rfl ⟨rfl, rfl, rfl⟩
set_option maxRecDepth 100000 in
set_option maxHeartbeats 4000000 in
theorem tb_law_1263 (X : ev_X) (F : Nat) (d : Nat) (hd : 105 ≤ d + 1) (k18 : Int32 → mx_D → mx_E → Option (Int32 × mx_D × mx_E)) (K18 : ∀ (l3 : Int32) (D : mx_D) (E : mx_E) (v : Int32 × mx_D × mx_E), k18 l3 D E = some v → ev X (d + 1) 337 (18, [some (.ref 2001), some (.ref 0), some (.ref 116), some (.int l3)], [], D, E) (qR (some (.int v.1)) v.2.1 v.2.2)) (l3 : Int32) (D : mx_D) (E : mx_E) (v : Int32 × mx_D × mx_E) (h : b_law_1263 F X k18 l3 D E = some v) : ev X (d + 1) 337 (1263, [some (.ref 2001), some (.ref 0), some (.ref 116), some (.int l3)], [], D, E) (qR (some (.int v.1)) v.2.1 v.2.2) := by
  have hq : kq_m 337 = some kq_q337 := rfl
  unfold b_law_1263 at h
  have hs := lc_s19
  refine gw_n hq hs 5 (S' := (1268, [some (.ref 2001), some (.ref 0), some (.ref 116), some (.int l3)], [.int (l3 + (nI 1)), .ref 2001, .ref 0], D, E)) rfl ?_
  refine gv_ix hq (hs _ _ rfl) rfl h 1269 rfl (fun h => ?_)
  refine gw_n hq hs 4 (S' := (1273, [some (.ref 2001), some (.ref 0), some (.ref 116), some (.int l3)], [.int (l3 + (nI 2)), .ref 2001, .int (X.2 ((l3 + (nI 1))).toNatClampNeg), .ref 0], D, E)) rfl ?_
  refine gv_ix hq (hs _ _ rfl) rfl h 1274 rfl (fun h => ?_)
  obtain ⟨r67, h1, h⟩ := Option.bind_eq_some_iff.mp h
  refine gv_d hq (hs _ _ rfl) rfl rfl rfl rfl (gv_dd (by omega) (t_X_stilts X F (d - 1) (by omega) E _ _ _ _ h1)) (S' := (1277, [some (.ref 2001), some (.ref 0), some (.ref 116), some (.int l3)], [.int r67.1], r67.2, E)) rfl ?_
  refine gw_n hq hs 5 (S' := (1282, [some (.ref 2001), some (.ref 0), some (.ref 116), some (.int l3)], [.int (l3 + (nI 1)), .ref 2001, .ref 116, .int r67.1], r67.2, E)) rfl ?_
  refine gv_ix hq (hs _ _ rfl) rfl h 1283 rfl (fun h => ?_)
  refine gw_n hq hs 4 (S' := (1287, [some (.ref 2001), some (.ref 0), some (.ref 116), some (.int l3)], [.int (l3 + (nI 2)), .ref 2001, .int (X.2 ((l3 + (nI 1))).toNatClampNeg), .ref 116, .int r67.1], r67.2, E)) rfl ?_
  refine gv_ix hq (hs _ _ rfl) rfl h 1288 rfl (fun h => ?_)
  obtain ⟨r68, h1, h⟩ := Option.bind_eq_some_iff.mp h
  refine gv_d hq (hs _ _ rfl) rfl rfl rfl rfl (gv_dd (by omega) (t_M_stilts X F (d - 1) (by omega) E _ _ _ _ h1)) (S' := (1291, [some (.ref 2001), some (.ref 0), some (.ref 116), some (.int l3)], [.int r68.1, .int r67.1], r68.2, E)) rfl ?_
  refine gv_b hq (hs _ _ rfl) h 2168 1294 rfl rfl rfl (fun h => ?_) (fun h => ?_)
  · exact gv_w (tb_law_2168 X F d hd k18 K18 _ _ _ _ h) (And.intro rfl (And.intro rfl (And.intro rfl (And.intro rfl trivial))))
  · refine gw_n hq hs 1 (S' := (1295, [some (.ref 2001), some (.ref 0), some (.ref 116), some (.int l3)], [.int (nI 0)], r68.2, E)) rfl ?_
    cases h
    exact ev_ret hq (hs _ _ rfl) rfl ⟨rfl, rfl, rfl⟩
set_option maxRecDepth 100000 in
set_option maxHeartbeats 4000000 in
theorem tb_law_1296 (X : ev_X) (F : Nat) (d : Nat) (hd : 105 ≤ d + 1) (k18 : Int32 → mx_D → mx_E → Option (Int32 × mx_D × mx_E)) (K18 : ∀ (l3 : Int32) (D : mx_D) (E : mx_E) (v : Int32 × mx_D × mx_E), k18 l3 D E = some v → ev X (d + 1) 337 (18, [some (.ref 2001), some (.ref 0), some (.ref 116), some (.int l3)], [], D, E) (qR (some (.int v.1)) v.2.1 v.2.2)) (l3 : Int32) (D : mx_D) (E : mx_E) (v : Int32 × mx_D × mx_E) (h : b_law_1296 F X k18 l3 D E = some v) : ev X (d + 1) 337 (1296, [some (.ref 2001), some (.ref 0), some (.ref 116), some (.int l3)], [], D, E) (qR (some (.int v.1)) v.2.1 v.2.2) := by
  have hq : kq_m 337 = some kq_q337 := rfl
  unfold b_law_1296 at h
  have hs := lc_s20
  refine gw_n hq hs 5 (S' := (1301, [some (.ref 2001), some (.ref 0), some (.ref 116), some (.int l3)], [.int (l3 + (nI 1)), .ref 2001, .ref 0], D, E)) rfl ?_
  refine gv_ix hq (hs _ _ rfl) rfl h 1302 rfl (fun h => ?_)
  refine gw_n hq hs 4 (S' := (1306, [some (.ref 2001), some (.ref 0), some (.ref 116), some (.int l3)], [.int (l3 + (nI 2)), .ref 2001, .int (X.2 ((l3 + (nI 1))).toNatClampNeg), .ref 0], D, E)) rfl ?_
  refine gv_ix hq (hs _ _ rfl) rfl h 1307 rfl (fun h => ?_)
  obtain ⟨r69, h1, h⟩ := Option.bind_eq_some_iff.mp h
  refine gv_d hq (hs _ _ rfl) rfl rfl rfl rfl (gv_dd (by omega) (t_X_lengths X F (d - 1) (by omega) E _ _ _ _ h1)) (S' := (1310, [some (.ref 2001), some (.ref 0), some (.ref 116), some (.int l3)], [.int r69.1], r69.2, E)) rfl ?_
  refine gw_n hq hs 5 (S' := (1315, [some (.ref 2001), some (.ref 0), some (.ref 116), some (.int l3)], [.int (l3 + (nI 1)), .ref 2001, .ref 116, .int r69.1], r69.2, E)) rfl ?_
  refine gv_ix hq (hs _ _ rfl) rfl h 1316 rfl (fun h => ?_)
  refine gw_n hq hs 4 (S' := (1320, [some (.ref 2001), some (.ref 0), some (.ref 116), some (.int l3)], [.int (l3 + (nI 2)), .ref 2001, .int (X.2 ((l3 + (nI 1))).toNatClampNeg), .ref 116, .int r69.1], r69.2, E)) rfl ?_
  refine gv_ix hq (hs _ _ rfl) rfl h 1321 rfl (fun h => ?_)
  obtain ⟨r70, h1, h⟩ := Option.bind_eq_some_iff.mp h
  refine gv_d hq (hs _ _ rfl) rfl rfl rfl rfl (gv_dd (by omega) (t_M_lengths X F (d - 1) (by omega) E _ _ _ _ h1)) (S' := (1324, [some (.ref 2001), some (.ref 0), some (.ref 116), some (.int l3)], [.int r70.1, .int r69.1], r70.2, E)) rfl ?_
  refine gv_b hq (hs _ _ rfl) h 2168 1327 rfl rfl rfl (fun h => ?_) (fun h => ?_)
  · exact gv_w (tb_law_2168 X F d hd k18 K18 _ _ _ _ h) (And.intro rfl (And.intro rfl (And.intro rfl (And.intro rfl trivial))))
  · refine gw_n hq hs 1 (S' := (1328, [some (.ref 2001), some (.ref 0), some (.ref 116), some (.int l3)], [.int (nI 0)], r70.2, E)) rfl ?_
    cases h
    exact ev_ret hq (hs _ _ rfl) rfl ⟨rfl, rfl, rfl⟩
set_option maxRecDepth 100000 in
set_option maxHeartbeats 4000000 in
theorem tb_law_1329 (X : ev_X) (F : Nat) (d : Nat) (hd : 105 ≤ d + 1) (k18 : Int32 → mx_D → mx_E → Option (Int32 × mx_D × mx_E)) (K18 : ∀ (l3 : Int32) (D : mx_D) (E : mx_E) (v : Int32 × mx_D × mx_E), k18 l3 D E = some v → ev X (d + 1) 337 (18, [some (.ref 2001), some (.ref 0), some (.ref 116), some (.int l3)], [], D, E) (qR (some (.int v.1)) v.2.1 v.2.2)) (l3 : Int32) (D : mx_D) (E : mx_E) (v : Int32 × mx_D × mx_E) (h : b_law_1329 F X k18 l3 D E = some v) : ev X (d + 1) 337 (1329, [some (.ref 2001), some (.ref 0), some (.ref 116), some (.int l3)], [], D, E) (qR (some (.int v.1)) v.2.1 v.2.2) := by
  have hq : kq_m 337 = some kq_q337 := rfl
  unfold b_law_1329 at h
  have hs := lc_s21
  refine gw_n hq hs 5 (S' := (1334, [some (.ref 2001), some (.ref 0), some (.ref 116), some (.int l3)], [.int (l3 + (nI 1)), .ref 2001, .ref 0], D, E)) rfl ?_
  refine gv_ix hq (hs _ _ rfl) rfl h 1335 rfl (fun h => ?_)
  refine gw_n hq hs 4 (S' := (1339, [some (.ref 2001), some (.ref 0), some (.ref 116), some (.int l3)], [.int (l3 + (nI 2)), .ref 2001, .int (X.2 ((l3 + (nI 1))).toNatClampNeg), .ref 0], D, E)) rfl ?_
  refine gv_ix hq (hs _ _ rfl) rfl h 1340 rfl (fun h => ?_)
  refine gw_n hq hs 4 (S' := (1344, [some (.ref 2001), some (.ref 0), some (.ref 116), some (.int l3)], [.int (l3 + (nI 3)), .ref 2001, .int (X.2 ((l3 + (nI 2))).toNatClampNeg), .int (X.2 ((l3 + (nI 1))).toNatClampNeg), .ref 0], D, E)) rfl ?_
  refine gv_ix hq (hs _ _ rfl) rfl h 1345 rfl (fun h => ?_)
  obtain ⟨r71, h1, h⟩ := Option.bind_eq_some_iff.mp h
  refine gv_d hq (hs _ _ rfl) rfl rfl rfl rfl (gv_dd (by omega) (t_X_hump X F (d - 1) (by omega) D E _ _ _ _ h1)) (S' := (1348, [some (.ref 2001), some (.ref 0), some (.ref 116), some (.int l3)], [.int r71], D, E)) rfl ?_
  refine gw_n hq hs 5 (S' := (1353, [some (.ref 2001), some (.ref 0), some (.ref 116), some (.int l3)], [.int (l3 + (nI 1)), .ref 2001, .ref 116, .int r71], D, E)) rfl ?_
  refine gv_ix hq (hs _ _ rfl) rfl h 1354 rfl (fun h => ?_)
  refine gw_n hq hs 4 (S' := (1358, [some (.ref 2001), some (.ref 0), some (.ref 116), some (.int l3)], [.int (l3 + (nI 2)), .ref 2001, .int (X.2 ((l3 + (nI 1))).toNatClampNeg), .ref 116, .int r71], D, E)) rfl ?_
  refine gv_ix hq (hs _ _ rfl) rfl h 1359 rfl (fun h => ?_)
  refine gw_n hq hs 4 (S' := (1363, [some (.ref 2001), some (.ref 0), some (.ref 116), some (.int l3)], [.int (l3 + (nI 3)), .ref 2001, .int (X.2 ((l3 + (nI 2))).toNatClampNeg), .int (X.2 ((l3 + (nI 1))).toNatClampNeg), .ref 116, .int r71], D, E)) rfl ?_
  refine gv_ix hq (hs _ _ rfl) rfl h 1364 rfl (fun h => ?_)
  obtain ⟨r72, h1, h⟩ := Option.bind_eq_some_iff.mp h
  refine gv_d hq (hs _ _ rfl) rfl rfl rfl rfl (gv_dd (by omega) (t_M_hump X F (d - 1) (by omega) E _ _ _ _ _ h1)) (S' := (1367, [some (.ref 2001), some (.ref 0), some (.ref 116), some (.int l3)], [.int r72.1, .int r71], r72.2, E)) rfl ?_
  refine gv_b hq (hs _ _ rfl) h 2168 1370 rfl rfl rfl (fun h => ?_) (fun h => ?_)
  · exact gv_w (tb_law_2168 X F d hd k18 K18 _ _ _ _ h) (And.intro rfl (And.intro rfl (And.intro rfl (And.intro rfl trivial))))
  · refine gw_n hq hs 1 (S' := (1371, [some (.ref 2001), some (.ref 0), some (.ref 116), some (.int l3)], [.int (nI 0)], r72.2, E)) rfl ?_
    cases h
    exact ev_ret hq (hs _ _ rfl) rfl ⟨rfl, rfl, rfl⟩
set_option maxRecDepth 100000 in
set_option maxHeartbeats 4000000 in
theorem tb_law_1372 (X : ev_X) (F : Nat) (d : Nat) (hd : 105 ≤ d + 1) (k18 : Int32 → mx_D → mx_E → Option (Int32 × mx_D × mx_E)) (K18 : ∀ (l3 : Int32) (D : mx_D) (E : mx_E) (v : Int32 × mx_D × mx_E), k18 l3 D E = some v → ev X (d + 1) 337 (18, [some (.ref 2001), some (.ref 0), some (.ref 116), some (.int l3)], [], D, E) (qR (some (.int v.1)) v.2.1 v.2.2)) (l3 : Int32) (D : mx_D) (E : mx_E) (v : Int32 × mx_D × mx_E) (h : b_law_1372 F X k18 l3 D E = some v) : ev X (d + 1) 337 (1372, [some (.ref 2001), some (.ref 0), some (.ref 116), some (.int l3)], [], D, E) (qR (some (.int v.1)) v.2.1 v.2.2) := by
  have hq : kq_m 337 = some kq_q337 := rfl
  unfold b_law_1372 at h
  have hs := lc_s21
  refine gw_n hq hs 5 (S' := (1377, [some (.ref 2001), some (.ref 0), some (.ref 116), some (.int l3)], [.int (l3 + (nI 1)), .ref 2001, .ref 0], D, E)) rfl ?_
  refine gv_ix hq (hs _ _ rfl) rfl h 1378 rfl (fun h => ?_)
  refine gw_n hq hs 4 (S' := (1382, [some (.ref 2001), some (.ref 0), some (.ref 116), some (.int l3)], [.int (l3 + (nI 2)), .ref 2001, .int (X.2 ((l3 + (nI 1))).toNatClampNeg), .ref 0], D, E)) rfl ?_
  refine gv_ix hq (hs _ _ rfl) rfl h 1383 rfl (fun h => ?_)
  obtain ⟨r73, h1, h⟩ := Option.bind_eq_some_iff.mp h
  refine gv_d hq (hs _ _ rfl) rfl rfl rfl rfl (gv_dd (by omega) (t_X_seat X F (d - 1) (by omega) E _ _ _ _ h1)) (S' := (1386, [some (.ref 2001), some (.ref 0), some (.ref 116), some (.int l3)], [.int r73.1], r73.2, E)) rfl ?_
  refine gw_n hq hs 5 (S' := (1391, [some (.ref 2001), some (.ref 0), some (.ref 116), some (.int l3)], [.int (l3 + (nI 1)), .ref 2001, .ref 116, .int r73.1], r73.2, E)) rfl ?_
  refine gv_ix hq (hs _ _ rfl) rfl h 1392 rfl (fun h => ?_)
  refine gw_n hq hs 4 (S' := (1396, [some (.ref 2001), some (.ref 0), some (.ref 116), some (.int l3)], [.int (l3 + (nI 2)), .ref 2001, .int (X.2 ((l3 + (nI 1))).toNatClampNeg), .ref 116, .int r73.1], r73.2, E)) rfl ?_
  refine gv_ix hq (hs _ _ rfl) rfl h 1397 rfl (fun h => ?_)
  obtain ⟨r74, h1, h⟩ := Option.bind_eq_some_iff.mp h
  refine gv_d hq (hs _ _ rfl) rfl rfl rfl rfl (gv_dd (by omega) (t_M_seat X F (d - 1) (by omega) E _ _ _ _ h1)) (S' := (1400, [some (.ref 2001), some (.ref 0), some (.ref 116), some (.int l3)], [.int r74.1, .int r73.1], r74.2, E)) rfl ?_
  refine gv_b hq (hs _ _ rfl) h 2168 1403 rfl rfl rfl (fun h => ?_) (fun h => ?_)
  · exact gv_w (tb_law_2168 X F d hd k18 K18 _ _ _ _ h) (And.intro rfl (And.intro rfl (And.intro rfl (And.intro rfl trivial))))
  · refine gw_n hq hs 1 (S' := (1404, [some (.ref 2001), some (.ref 0), some (.ref 116), some (.int l3)], [.int (nI 0)], r74.2, E)) rfl ?_
    cases h
    exact ev_ret hq (hs _ _ rfl) rfl ⟨rfl, rfl, rfl⟩
set_option maxRecDepth 100000 in
set_option maxHeartbeats 4000000 in
theorem tb_law_1405 (X : ev_X) (F : Nat) (d : Nat) (hd : 105 ≤ d + 1) (k18 : Int32 → mx_D → mx_E → Option (Int32 × mx_D × mx_E)) (K18 : ∀ (l3 : Int32) (D : mx_D) (E : mx_E) (v : Int32 × mx_D × mx_E), k18 l3 D E = some v → ev X (d + 1) 337 (18, [some (.ref 2001), some (.ref 0), some (.ref 116), some (.int l3)], [], D, E) (qR (some (.int v.1)) v.2.1 v.2.2)) (l3 : Int32) (D : mx_D) (E : mx_E) (v : Int32 × mx_D × mx_E) (h : b_law_1405 F X k18 l3 D E = some v) : ev X (d + 1) 337 (1405, [some (.ref 2001), some (.ref 0), some (.ref 116), some (.int l3)], [], D, E) (qR (some (.int v.1)) v.2.1 v.2.2) := by
  have hq : kq_m 337 = some kq_q337 := rfl
  unfold b_law_1405 at h
  have hs := lc_s22
  refine gw_n hq hs 5 (S' := (1410, [some (.ref 2001), some (.ref 0), some (.ref 116), some (.int l3)], [.int (l3 + (nI 1)), .ref 2001, .ref 0], D, E)) rfl ?_
  refine gv_ix hq (hs _ _ rfl) rfl h 1411 rfl (fun h => ?_)
  refine gw_n hq hs 4 (S' := (1415, [some (.ref 2001), some (.ref 0), some (.ref 116), some (.int l3)], [.int (l3 + (nI 2)), .ref 2001, .int (X.2 ((l3 + (nI 1))).toNatClampNeg), .ref 0], D, E)) rfl ?_
  refine gv_ix hq (hs _ _ rfl) rfl h 1416 rfl (fun h => ?_)
  refine gw_n hq hs 4 (S' := (1420, [some (.ref 2001), some (.ref 0), some (.ref 116), some (.int l3)], [.int (l3 + (nI 3)), .ref 2001, .int (X.2 ((l3 + (nI 2))).toNatClampNeg), .int (X.2 ((l3 + (nI 1))).toNatClampNeg), .ref 0], D, E)) rfl ?_
  refine gv_ix hq (hs _ _ rfl) rfl h 1421 rfl (fun h => ?_)
  obtain ⟨r75, h1, h⟩ := Option.bind_eq_some_iff.mp h
  refine gv_d hq (hs _ _ rfl) rfl rfl rfl rfl (gv_dd (by omega) (t_X_sits X F (d - 1) (by omega) E _ _ _ _ _ h1)) (S' := (1424, [some (.ref 2001), some (.ref 0), some (.ref 116), some (.int l3)], [.int r75.1], r75.2, E)) rfl ?_
  refine gw_n hq hs 5 (S' := (1429, [some (.ref 2001), some (.ref 0), some (.ref 116), some (.int l3)], [.int (l3 + (nI 1)), .ref 2001, .ref 116, .int r75.1], r75.2, E)) rfl ?_
  refine gv_ix hq (hs _ _ rfl) rfl h 1430 rfl (fun h => ?_)
  refine gw_n hq hs 4 (S' := (1434, [some (.ref 2001), some (.ref 0), some (.ref 116), some (.int l3)], [.int (l3 + (nI 2)), .ref 2001, .int (X.2 ((l3 + (nI 1))).toNatClampNeg), .ref 116, .int r75.1], r75.2, E)) rfl ?_
  refine gv_ix hq (hs _ _ rfl) rfl h 1435 rfl (fun h => ?_)
  refine gw_n hq hs 4 (S' := (1439, [some (.ref 2001), some (.ref 0), some (.ref 116), some (.int l3)], [.int (l3 + (nI 3)), .ref 2001, .int (X.2 ((l3 + (nI 2))).toNatClampNeg), .int (X.2 ((l3 + (nI 1))).toNatClampNeg), .ref 116, .int r75.1], r75.2, E)) rfl ?_
  refine gv_ix hq (hs _ _ rfl) rfl h 1440 rfl (fun h => ?_)
  obtain ⟨r76, h1, h⟩ := Option.bind_eq_some_iff.mp h
  refine gv_d hq (hs _ _ rfl) rfl rfl rfl rfl (gv_dd (by omega) (t_M_sits2 X F (d - 1) (by omega) E _ _ _ _ _ h1)) (S' := (1443, [some (.ref 2001), some (.ref 0), some (.ref 116), some (.int l3)], [.int r76.1, .int r75.1], r76.2, E)) rfl ?_
  refine gv_b hq (hs _ _ rfl) h 2168 1446 rfl rfl rfl (fun h => ?_) (fun h => ?_)
  · exact gv_w (tb_law_2168 X F d hd k18 K18 _ _ _ _ h) (And.intro rfl (And.intro rfl (And.intro rfl (And.intro rfl trivial))))
  · refine gw_n hq hs 1 (S' := (1447, [some (.ref 2001), some (.ref 0), some (.ref 116), some (.int l3)], [.int (nI 0)], r76.2, E)) rfl ?_
    cases h
    exact ev_ret hq (hs _ _ rfl) rfl ⟨rfl, rfl, rfl⟩
set_option maxRecDepth 100000 in
set_option maxHeartbeats 4000000 in
theorem tb_law_1448 (X : ev_X) (F : Nat) (d : Nat) (hd : 105 ≤ d + 1) (k18 : Int32 → mx_D → mx_E → Option (Int32 × mx_D × mx_E)) (K18 : ∀ (l3 : Int32) (D : mx_D) (E : mx_E) (v : Int32 × mx_D × mx_E), k18 l3 D E = some v → ev X (d + 1) 337 (18, [some (.ref 2001), some (.ref 0), some (.ref 116), some (.int l3)], [], D, E) (qR (some (.int v.1)) v.2.1 v.2.2)) (l3 : Int32) (D : mx_D) (E : mx_E) (v : Int32 × mx_D × mx_E) (h : b_law_1448 F X k18 l3 D E = some v) : ev X (d + 1) 337 (1448, [some (.ref 2001), some (.ref 0), some (.ref 116), some (.int l3)], [], D, E) (qR (some (.int v.1)) v.2.1 v.2.2) := by
  have hq : kq_m 337 = some kq_q337 := rfl
  unfold b_law_1448 at h
  have hs := lc_s23
  refine gw_n hq hs 5 (S' := (1453, [some (.ref 2001), some (.ref 0), some (.ref 116), some (.int l3)], [.int (l3 + (nI 1)), .ref 2001, .ref 0], D, E)) rfl ?_
  refine gv_ix hq (hs _ _ rfl) rfl h 1454 rfl (fun h => ?_)
  refine gw_n hq hs 4 (S' := (1458, [some (.ref 2001), some (.ref 0), some (.ref 116), some (.int l3)], [.int (l3 + (nI 2)), .ref 2001, .int (X.2 ((l3 + (nI 1))).toNatClampNeg), .ref 0], D, E)) rfl ?_
  refine gv_ix hq (hs _ _ rfl) rfl h 1459 rfl (fun h => ?_)
  obtain ⟨r77, h1, h⟩ := Option.bind_eq_some_iff.mp h
  refine gv_d hq (hs _ _ rfl) rfl rfl rfl rfl (gv_dd (by omega) (t_X_change X (d - 1) (by omega) E _ _ _ _ h1)) (S' := (1462, [some (.ref 2001), some (.ref 0), some (.ref 116), some (.int l3)], [.int r77.1], r77.2, E)) rfl ?_
  refine gw_n hq hs 5 (S' := (1467, [some (.ref 2001), some (.ref 0), some (.ref 116), some (.int l3)], [.int (l3 + (nI 1)), .ref 2001, .ref 116, .int r77.1], r77.2, E)) rfl ?_
  refine gv_ix hq (hs _ _ rfl) rfl h 1468 rfl (fun h => ?_)
  refine gw_n hq hs 4 (S' := (1472, [some (.ref 2001), some (.ref 0), some (.ref 116), some (.int l3)], [.int (l3 + (nI 2)), .ref 2001, .int (X.2 ((l3 + (nI 1))).toNatClampNeg), .ref 116, .int r77.1], r77.2, E)) rfl ?_
  refine gv_ix hq (hs _ _ rfl) rfl h 1473 rfl (fun h => ?_)
  obtain ⟨r78, h1, h⟩ := Option.bind_eq_some_iff.mp h
  refine gv_d hq (hs _ _ rfl) rfl rfl rfl rfl (gv_dd (by omega) (t_M_change X (d - 1) (by omega) E _ _ _ _ h1)) (S' := (1476, [some (.ref 2001), some (.ref 0), some (.ref 116), some (.int l3)], [.int r78.1, .int r77.1], r78.2, E)) rfl ?_
  refine gv_b hq (hs _ _ rfl) h 2168 1479 rfl rfl rfl (fun h => ?_) (fun h => ?_)
  · exact gv_w (tb_law_2168 X F d hd k18 K18 _ _ _ _ h) (And.intro rfl (And.intro rfl (And.intro rfl (And.intro rfl trivial))))
  · refine gw_n hq hs 1 (S' := (1480, [some (.ref 2001), some (.ref 0), some (.ref 116), some (.int l3)], [.int (nI 0)], r78.2, E)) rfl ?_
    cases h
    exact ev_ret hq (hs _ _ rfl) rfl ⟨rfl, rfl, rfl⟩
set_option maxRecDepth 100000 in
set_option maxHeartbeats 4000000 in
theorem tb_law_1481 (X : ev_X) (F : Nat) (d : Nat) (hd : 105 ≤ d + 1) (k18 : Int32 → mx_D → mx_E → Option (Int32 × mx_D × mx_E)) (K18 : ∀ (l3 : Int32) (D : mx_D) (E : mx_E) (v : Int32 × mx_D × mx_E), k18 l3 D E = some v → ev X (d + 1) 337 (18, [some (.ref 2001), some (.ref 0), some (.ref 116), some (.int l3)], [], D, E) (qR (some (.int v.1)) v.2.1 v.2.2)) (l3 : Int32) (D : mx_D) (E : mx_E) (v : Int32 × mx_D × mx_E) (h : b_law_1481 F X k18 l3 D E = some v) : ev X (d + 1) 337 (1481, [some (.ref 2001), some (.ref 0), some (.ref 116), some (.int l3)], [], D, E) (qR (some (.int v.1)) v.2.1 v.2.2) := by
  have hq : kq_m 337 = some kq_q337 := rfl
  unfold b_law_1481 at h
  have hs := lc_s24
  refine gw_n hq hs 5 (S' := (1486, [some (.ref 2001), some (.ref 0), some (.ref 116), some (.int l3)], [.int (l3 + (nI 1)), .ref 2001, .ref 0], D, E)) rfl ?_
  refine gv_ix hq (hs _ _ rfl) rfl h 1487 rfl (fun h => ?_)
  obtain ⟨r79, h1, h⟩ := Option.bind_eq_some_iff.mp h
  refine gv_d hq (hs _ _ rfl) rfl rfl rfl rfl (gv_dd (by omega) (t_X_pair X F (d - 1) (by omega) E _ _ _ h1)) (S' := (1490, [some (.ref 2001), some (.ref 0), some (.ref 116), some (.int l3)], [.int r79.1], r79.2, E)) rfl ?_
  refine gw_n hq hs 5 (S' := (1495, [some (.ref 2001), some (.ref 0), some (.ref 116), some (.int l3)], [.int (l3 + (nI 1)), .ref 2001, .ref 116, .int r79.1], r79.2, E)) rfl ?_
  refine gv_ix hq (hs _ _ rfl) rfl h 1496 rfl (fun h => ?_)
  obtain ⟨r80, h1, h⟩ := Option.bind_eq_some_iff.mp h
  refine gv_d hq (hs _ _ rfl) rfl rfl rfl rfl (gv_dd (by omega) (t_M_pair X F (d - 1) (by omega) E _ _ _ h1)) (S' := (1499, [some (.ref 2001), some (.ref 0), some (.ref 116), some (.int l3)], [.int r80.1, .int r79.1], r80.2, E)) rfl ?_
  refine gv_b hq (hs _ _ rfl) h 2168 1502 rfl rfl rfl (fun h => ?_) (fun h => ?_)
  · exact gv_w (tb_law_2168 X F d hd k18 K18 _ _ _ _ h) (And.intro rfl (And.intro rfl (And.intro rfl (And.intro rfl trivial))))
  · refine gw_n hq hs 1 (S' := (1503, [some (.ref 2001), some (.ref 0), some (.ref 116), some (.int l3)], [.int (nI 0)], r80.2, E)) rfl ?_
    cases h
    exact ev_ret hq (hs _ _ rfl) rfl ⟨rfl, rfl, rfl⟩
set_option maxRecDepth 100000 in
set_option maxHeartbeats 4000000 in
theorem tb_law_1504 (X : ev_X) (F : Nat) (d : Nat) (hd : 105 ≤ d + 1) (k18 : Int32 → mx_D → mx_E → Option (Int32 × mx_D × mx_E)) (K18 : ∀ (l3 : Int32) (D : mx_D) (E : mx_E) (v : Int32 × mx_D × mx_E), k18 l3 D E = some v → ev X (d + 1) 337 (18, [some (.ref 2001), some (.ref 0), some (.ref 116), some (.int l3)], [], D, E) (qR (some (.int v.1)) v.2.1 v.2.2)) (l3 : Int32) (D : mx_D) (E : mx_E) (v : Int32 × mx_D × mx_E) (h : b_law_1504 F X k18 l3 D E = some v) : ev X (d + 1) 337 (1504, [some (.ref 2001), some (.ref 0), some (.ref 116), some (.int l3)], [], D, E) (qR (some (.int v.1)) v.2.1 v.2.2) := by
  have hq : kq_m 337 = some kq_q337 := rfl
  unfold b_law_1504 at h
  have hs := lc_s24
  refine gw_n hq hs 5 (S' := (1509, [some (.ref 2001), some (.ref 0), some (.ref 116), some (.int l3)], [.int (l3 + (nI 1)), .ref 2001, .ref 0], D, E)) rfl ?_
  refine gv_ix hq (hs _ _ rfl) rfl h 1510 rfl (fun h => ?_)
  refine gw_n hq hs 4 (S' := (1514, [some (.ref 2001), some (.ref 0), some (.ref 116), some (.int l3)], [.int (l3 + (nI 2)), .ref 2001, .int (X.2 ((l3 + (nI 1))).toNatClampNeg), .ref 0], D, E)) rfl ?_
  refine gv_ix hq (hs _ _ rfl) rfl h 1515 rfl (fun h => ?_)
  obtain ⟨r81, h1, h⟩ := Option.bind_eq_some_iff.mp h
  refine gv_d hq (hs _ _ rfl) rfl rfl rfl rfl (gv_dd (by omega) (t_X_wears X F (d - 1) (by omega) E _ _ _ _ h1)) (S' := (1518, [some (.ref 2001), some (.ref 0), some (.ref 116), some (.int l3)], [.int r81.1], r81.2, E)) rfl ?_
  refine gw_n hq hs 5 (S' := (1523, [some (.ref 2001), some (.ref 0), some (.ref 116), some (.int l3)], [.int (l3 + (nI 1)), .ref 2001, .ref 116, .int r81.1], r81.2, E)) rfl ?_
  refine gv_ix hq (hs _ _ rfl) rfl h 1524 rfl (fun h => ?_)
  refine gw_n hq hs 4 (S' := (1528, [some (.ref 2001), some (.ref 0), some (.ref 116), some (.int l3)], [.int (l3 + (nI 2)), .ref 2001, .int (X.2 ((l3 + (nI 1))).toNatClampNeg), .ref 116, .int r81.1], r81.2, E)) rfl ?_
  refine gv_ix hq (hs _ _ rfl) rfl h 1529 rfl (fun h => ?_)
  obtain ⟨r82, h1, h⟩ := Option.bind_eq_some_iff.mp h
  refine gv_d hq (hs _ _ rfl) rfl rfl rfl rfl (gv_dd (by omega) (t_M_wears X F (d - 1) (by omega) E _ _ _ _ h1)) (S' := (1532, [some (.ref 2001), some (.ref 0), some (.ref 116), some (.int l3)], [.int r82.1, .int r81.1], r82.2, E)) rfl ?_
  refine gv_b hq (hs _ _ rfl) h 2168 1535 rfl rfl rfl (fun h => ?_) (fun h => ?_)
  · exact gv_w (tb_law_2168 X F d hd k18 K18 _ _ _ _ h) (And.intro rfl (And.intro rfl (And.intro rfl (And.intro rfl trivial))))
  · refine gw_n hq hs 1 (S' := (1536, [some (.ref 2001), some (.ref 0), some (.ref 116), some (.int l3)], [.int (nI 0)], r82.2, E)) rfl ?_
    cases h
    exact ev_ret hq (hs _ _ rfl) rfl ⟨rfl, rfl, rfl⟩
set_option maxRecDepth 100000 in
set_option maxHeartbeats 4000000 in
theorem tb_law_1537 (X : ev_X) (F : Nat) (d : Nat) (hd : 105 ≤ d + 1) (k18 : Int32 → mx_D → mx_E → Option (Int32 × mx_D × mx_E)) (K18 : ∀ (l3 : Int32) (D : mx_D) (E : mx_E) (v : Int32 × mx_D × mx_E), k18 l3 D E = some v → ev X (d + 1) 337 (18, [some (.ref 2001), some (.ref 0), some (.ref 116), some (.int l3)], [], D, E) (qR (some (.int v.1)) v.2.1 v.2.2)) (l3 : Int32) (D : mx_D) (E : mx_E) (v : Int32 × mx_D × mx_E) (h : b_law_1537 F X k18 l3 D E = some v) : ev X (d + 1) 337 (1537, [some (.ref 2001), some (.ref 0), some (.ref 116), some (.int l3)], [], D, E) (qR (some (.int v.1)) v.2.1 v.2.2) := by
  have hq : kq_m 337 = some kq_q337 := rfl
  unfold b_law_1537 at h
  have hs := lc_s25
  refine gw_n hq hs 5 (S' := (1542, [some (.ref 2001), some (.ref 0), some (.ref 116), some (.int l3)], [.int (l3 + (nI 1)), .ref 2001, .ref 0], D, E)) rfl ?_
  refine gv_ix hq (hs _ _ rfl) rfl h 1543 rfl (fun h => ?_)
  refine gw_n hq hs 4 (S' := (1547, [some (.ref 2001), some (.ref 0), some (.ref 116), some (.int l3)], [.int (l3 + (nI 2)), .ref 2001, .int (X.2 ((l3 + (nI 1))).toNatClampNeg), .ref 0], D, E)) rfl ?_
  refine gv_ix hq (hs _ _ rfl) rfl h 1548 rfl (fun h => ?_)
  obtain ⟨r83, h1, h⟩ := Option.bind_eq_some_iff.mp h
  refine gv_d hq (hs _ _ rfl) rfl rfl rfl rfl (gv_dd (by omega) (t_X_stands X (d - 1) (by omega) E _ _ _ _ h1)) (S' := (1551, [some (.ref 2001), some (.ref 0), some (.ref 116), some (.int l3)], [.int r83.1], r83.2, E)) rfl ?_
  refine gw_n hq hs 5 (S' := (1556, [some (.ref 2001), some (.ref 0), some (.ref 116), some (.int l3)], [.int (l3 + (nI 1)), .ref 2001, .ref 116, .int r83.1], r83.2, E)) rfl ?_
  refine gv_ix hq (hs _ _ rfl) rfl h 1557 rfl (fun h => ?_)
  refine gw_n hq hs 4 (S' := (1561, [some (.ref 2001), some (.ref 0), some (.ref 116), some (.int l3)], [.int (l3 + (nI 2)), .ref 2001, .int (X.2 ((l3 + (nI 1))).toNatClampNeg), .ref 116, .int r83.1], r83.2, E)) rfl ?_
  refine gv_ix hq (hs _ _ rfl) rfl h 1562 rfl (fun h => ?_)
  obtain ⟨r84, h1, h⟩ := Option.bind_eq_some_iff.mp h
  refine gv_d hq (hs _ _ rfl) rfl rfl rfl rfl (gv_dd (by omega) (t_M_stands X (d - 1) (by omega) E _ _ _ _ h1)) (S' := (1565, [some (.ref 2001), some (.ref 0), some (.ref 116), some (.int l3)], [.int r84.1, .int r83.1], r84.2, E)) rfl ?_
  refine gv_b hq (hs _ _ rfl) h 2168 1568 rfl rfl rfl (fun h => ?_) (fun h => ?_)
  · exact gv_w (tb_law_2168 X F d hd k18 K18 _ _ _ _ h) (And.intro rfl (And.intro rfl (And.intro rfl (And.intro rfl trivial))))
  · refine gw_n hq hs 1 (S' := (1569, [some (.ref 2001), some (.ref 0), some (.ref 116), some (.int l3)], [.int (nI 0)], r84.2, E)) rfl ?_
    cases h
    exact ev_ret hq (hs _ _ rfl) rfl ⟨rfl, rfl, rfl⟩
set_option maxRecDepth 100000 in
set_option maxHeartbeats 4000000 in
theorem tb_law_1570 (X : ev_X) (F : Nat) (d : Nat) (hd : 105 ≤ d + 1) (k18 : Int32 → mx_D → mx_E → Option (Int32 × mx_D × mx_E)) (K18 : ∀ (l3 : Int32) (D : mx_D) (E : mx_E) (v : Int32 × mx_D × mx_E), k18 l3 D E = some v → ev X (d + 1) 337 (18, [some (.ref 2001), some (.ref 0), some (.ref 116), some (.int l3)], [], D, E) (qR (some (.int v.1)) v.2.1 v.2.2)) (l3 : Int32) (D : mx_D) (E : mx_E) (v : Int32 × mx_D × mx_E) (h : b_law_1570 F X k18 l3 D E = some v) : ev X (d + 1) 337 (1570, [some (.ref 2001), some (.ref 0), some (.ref 116), some (.int l3)], [], D, E) (qR (some (.int v.1)) v.2.1 v.2.2) := by
  have hq : kq_m 337 = some kq_q337 := rfl
  unfold b_law_1570 at h
  have hs := lc_s26
  refine gw_n hq hs 5 (S' := (1575, [some (.ref 2001), some (.ref 0), some (.ref 116), some (.int l3)], [.int (l3 + (nI 1)), .ref 2001, .ref 0], D, E)) rfl ?_
  refine gv_ix hq (hs _ _ rfl) rfl h 1576 rfl (fun h => ?_)
  refine gw_n hq hs 4 (S' := (1580, [some (.ref 2001), some (.ref 0), some (.ref 116), some (.int l3)], [.int (l3 + (nI 2)), .ref 2001, .int (X.2 ((l3 + (nI 1))).toNatClampNeg), .ref 0], D, E)) rfl ?_
  refine gv_ix hq (hs _ _ rfl) rfl h 1581 rfl (fun h => ?_)
  refine gw_n hq hs 4 (S' := (1585, [some (.ref 2001), some (.ref 0), some (.ref 116), some (.int l3)], [.int (l3 + (nI 3)), .ref 2001, .int (X.2 ((l3 + (nI 2))).toNatClampNeg), .int (X.2 ((l3 + (nI 1))).toNatClampNeg), .ref 0], D, E)) rfl ?_
  refine gv_ix hq (hs _ _ rfl) rfl h 1586 rfl (fun h => ?_)
  obtain ⟨r85, h1, h⟩ := Option.bind_eq_some_iff.mp h
  refine gv_d hq (hs _ _ rfl) rfl rfl rfl rfl (gv_dd (by omega) (t_X_trench X (d - 1) (by omega) E _ _ _ _ _ h1)) (S' := (1589, [some (.ref 2001), some (.ref 0), some (.ref 116), some (.int l3)], [.int r85.1], r85.2, E)) rfl ?_
  refine gw_n hq hs 5 (S' := (1594, [some (.ref 2001), some (.ref 0), some (.ref 116), some (.int l3)], [.int (l3 + (nI 1)), .ref 2001, .ref 116, .int r85.1], r85.2, E)) rfl ?_
  refine gv_ix hq (hs _ _ rfl) rfl h 1595 rfl (fun h => ?_)
  refine gw_n hq hs 4 (S' := (1599, [some (.ref 2001), some (.ref 0), some (.ref 116), some (.int l3)], [.int (l3 + (nI 2)), .ref 2001, .int (X.2 ((l3 + (nI 1))).toNatClampNeg), .ref 116, .int r85.1], r85.2, E)) rfl ?_
  refine gv_ix hq (hs _ _ rfl) rfl h 1600 rfl (fun h => ?_)
  refine gw_n hq hs 4 (S' := (1604, [some (.ref 2001), some (.ref 0), some (.ref 116), some (.int l3)], [.int (l3 + (nI 3)), .ref 2001, .int (X.2 ((l3 + (nI 2))).toNatClampNeg), .int (X.2 ((l3 + (nI 1))).toNatClampNeg), .ref 116, .int r85.1], r85.2, E)) rfl ?_
  refine gv_ix hq (hs _ _ rfl) rfl h 1605 rfl (fun h => ?_)
  obtain ⟨r86, h1, h⟩ := Option.bind_eq_some_iff.mp h
  refine gv_d hq (hs _ _ rfl) rfl rfl rfl rfl (gv_dd (by omega) (t_M_trench X (d - 1) (by omega) E _ _ _ _ _ h1)) (S' := (1608, [some (.ref 2001), some (.ref 0), some (.ref 116), some (.int l3)], [.int r86.1, .int r85.1], r86.2, E)) rfl ?_
  refine gv_b hq (hs _ _ rfl) h 2168 1611 rfl rfl rfl (fun h => ?_) (fun h => ?_)
  · exact gv_w (tb_law_2168 X F d hd k18 K18 _ _ _ _ h) (And.intro rfl (And.intro rfl (And.intro rfl (And.intro rfl trivial))))
  · refine gw_n hq hs 1 (S' := (1612, [some (.ref 2001), some (.ref 0), some (.ref 116), some (.int l3)], [.int (nI 0)], r86.2, E)) rfl ?_
    cases h
    exact ev_ret hq (hs _ _ rfl) rfl ⟨rfl, rfl, rfl⟩
set_option maxRecDepth 100000 in
set_option maxHeartbeats 4000000 in
theorem tb_law_1613 (X : ev_X) (F : Nat) (d : Nat) (hd : 105 ≤ d + 1) (k18 : Int32 → mx_D → mx_E → Option (Int32 × mx_D × mx_E)) (K18 : ∀ (l3 : Int32) (D : mx_D) (E : mx_E) (v : Int32 × mx_D × mx_E), k18 l3 D E = some v → ev X (d + 1) 337 (18, [some (.ref 2001), some (.ref 0), some (.ref 116), some (.int l3)], [], D, E) (qR (some (.int v.1)) v.2.1 v.2.2)) (l3 : Int32) (D : mx_D) (E : mx_E) (v : Int32 × mx_D × mx_E) (h : b_law_1613 F X k18 l3 D E = some v) : ev X (d + 1) 337 (1613, [some (.ref 2001), some (.ref 0), some (.ref 116), some (.int l3)], [], D, E) (qR (some (.int v.1)) v.2.1 v.2.2) := by
  have hq : kq_m 337 = some kq_q337 := rfl
  unfold b_law_1613 at h
  have hs := lc_s26
  refine gw_n hq hs 5 (S' := (1618, [some (.ref 2001), some (.ref 0), some (.ref 116), some (.int l3)], [.int (l3 + (nI 1)), .ref 2001, .ref 0], D, E)) rfl ?_
  refine gv_ix hq (hs _ _ rfl) rfl h 1619 rfl (fun h => ?_)
  refine gw_n hq hs 4 (S' := (1623, [some (.ref 2001), some (.ref 0), some (.ref 116), some (.int l3)], [.int (l3 + (nI 2)), .ref 2001, .int (X.2 ((l3 + (nI 1))).toNatClampNeg), .ref 0], D, E)) rfl ?_
  refine gv_ix hq (hs _ _ rfl) rfl h 1624 rfl (fun h => ?_)
  obtain ⟨r87, h1, h⟩ := Option.bind_eq_some_iff.mp h
  refine gv_d hq (hs _ _ rfl) rfl rfl rfl rfl (gv_dd (by omega) (t_X_digs X F (d - 1) (by omega) E _ _ _ _ h1)) (S' := (1627, [some (.ref 2001), some (.ref 0), some (.ref 116), some (.int l3)], [.int r87.1], r87.2, E)) rfl ?_
  refine gw_n hq hs 5 (S' := (1632, [some (.ref 2001), some (.ref 0), some (.ref 116), some (.int l3)], [.int (l3 + (nI 1)), .ref 2001, .ref 116, .int r87.1], r87.2, E)) rfl ?_
  refine gv_ix hq (hs _ _ rfl) rfl h 1633 rfl (fun h => ?_)
  refine gw_n hq hs 4 (S' := (1637, [some (.ref 2001), some (.ref 0), some (.ref 116), some (.int l3)], [.int (l3 + (nI 2)), .ref 2001, .int (X.2 ((l3 + (nI 1))).toNatClampNeg), .ref 116, .int r87.1], r87.2, E)) rfl ?_
  refine gv_ix hq (hs _ _ rfl) rfl h 1638 rfl (fun h => ?_)
  obtain ⟨r88, h1, h⟩ := Option.bind_eq_some_iff.mp h
  refine gv_d hq (hs _ _ rfl) rfl rfl rfl rfl (gv_dd (by omega) (t_M_digs X F (d - 1) (by omega) E _ _ _ _ h1)) (S' := (1641, [some (.ref 2001), some (.ref 0), some (.ref 116), some (.int l3)], [.int r88.1, .int r87.1], r88.2, E)) rfl ?_
  refine gv_b hq (hs _ _ rfl) h 2168 1644 rfl rfl rfl (fun h => ?_) (fun h => ?_)
  · exact gv_w (tb_law_2168 X F d hd k18 K18 _ _ _ _ h) (And.intro rfl (And.intro rfl (And.intro rfl (And.intro rfl trivial))))
  · refine gw_n hq hs 1 (S' := (1645, [some (.ref 2001), some (.ref 0), some (.ref 116), some (.int l3)], [.int (nI 0)], r88.2, E)) rfl ?_
    cases h
    exact ev_ret hq (hs _ _ rfl) rfl ⟨rfl, rfl, rfl⟩
set_option maxRecDepth 100000 in
set_option maxHeartbeats 4000000 in
theorem tb_law_1646 (X : ev_X) (F : Nat) (d : Nat) (hd : 105 ≤ d + 1) (k18 : Int32 → mx_D → mx_E → Option (Int32 × mx_D × mx_E)) (K18 : ∀ (l3 : Int32) (D : mx_D) (E : mx_E) (v : Int32 × mx_D × mx_E), k18 l3 D E = some v → ev X (d + 1) 337 (18, [some (.ref 2001), some (.ref 0), some (.ref 116), some (.int l3)], [], D, E) (qR (some (.int v.1)) v.2.1 v.2.2)) (l3 : Int32) (D : mx_D) (E : mx_E) (v : Int32 × mx_D × mx_E) (h : b_law_1646 F X k18 l3 D E = some v) : ev X (d + 1) 337 (1646, [some (.ref 2001), some (.ref 0), some (.ref 116), some (.int l3)], [], D, E) (qR (some (.int v.1)) v.2.1 v.2.2) := by
  have hq : kq_m 337 = some kq_q337 := rfl
  unfold b_law_1646 at h
  have hs := lc_s27
  refine gw_n hq hs 5 (S' := (1651, [some (.ref 2001), some (.ref 0), some (.ref 116), some (.int l3)], [.int (l3 + (nI 1)), .ref 2001, .ref 0], D, E)) rfl ?_
  refine gv_ix hq (hs _ _ rfl) rfl h 1652 rfl (fun h => ?_)
  refine gv_d hq (hs _ _ rfl) rfl rfl rfl rfl (gv_dd (by omega) (t_X_law X (d - 1) (by omega) E _ _ _ rfl)) (S' := (1655, [some (.ref 2001), some (.ref 0), some (.ref 116), some (.int l3)], [.int (g_X_law (X.2 ((l3 + (nI 1))).toNatClampNeg) D).1], (g_X_law (X.2 ((l3 + (nI 1))).toNatClampNeg) D).2, E)) rfl ?_
  refine gw_n hq hs 5 (S' := (1660, [some (.ref 2001), some (.ref 0), some (.ref 116), some (.int l3)], [.int (l3 + (nI 1)), .ref 2001, .ref 116, .int (g_X_law (X.2 ((l3 + (nI 1))).toNatClampNeg) D).1], (g_X_law (X.2 ((l3 + (nI 1))).toNatClampNeg) D).2, E)) rfl ?_
  refine gv_ix hq (hs _ _ rfl) rfl h 1661 rfl (fun h => ?_)
  refine gv_d hq (hs _ _ rfl) rfl rfl rfl rfl (gv_dd (by omega) (t_M_law X (d - 1) (by omega) E _ _ _ rfl)) (S' := (1664, [some (.ref 2001), some (.ref 0), some (.ref 116), some (.int l3)], [.int (g_M_law (X.2 ((l3 + (nI 1))).toNatClampNeg) (g_X_law (X.2 ((l3 + (nI 1))).toNatClampNeg) D).2).1, .int (g_X_law (X.2 ((l3 + (nI 1))).toNatClampNeg) D).1], (g_M_law (X.2 ((l3 + (nI 1))).toNatClampNeg) (g_X_law (X.2 ((l3 + (nI 1))).toNatClampNeg) D).2).2, E)) rfl ?_
  refine gv_b hq (hs _ _ rfl) h 2168 1667 rfl rfl rfl (fun h => ?_) (fun h => ?_)
  · exact gv_w (tb_law_2168 X F d hd k18 K18 _ _ _ _ h) (And.intro rfl (And.intro rfl (And.intro rfl (And.intro rfl trivial))))
  · refine gw_n hq hs 1 (S' := (1668, [some (.ref 2001), some (.ref 0), some (.ref 116), some (.int l3)], [.int (nI 0)], (g_M_law (X.2 ((l3 + (nI 1))).toNatClampNeg) (g_X_law (X.2 ((l3 + (nI 1))).toNatClampNeg) D).2).2, E)) rfl ?_
    cases h
    exact ev_ret hq (hs _ _ rfl) rfl ⟨rfl, rfl, rfl⟩
set_option maxRecDepth 100000 in
set_option maxHeartbeats 4000000 in
theorem tb_law_1669 (X : ev_X) (F : Nat) (d : Nat) (hd : 105 ≤ d + 1) (k18 : Int32 → mx_D → mx_E → Option (Int32 × mx_D × mx_E)) (K18 : ∀ (l3 : Int32) (D : mx_D) (E : mx_E) (v : Int32 × mx_D × mx_E), k18 l3 D E = some v → ev X (d + 1) 337 (18, [some (.ref 2001), some (.ref 0), some (.ref 116), some (.int l3)], [], D, E) (qR (some (.int v.1)) v.2.1 v.2.2)) (l3 : Int32) (D : mx_D) (E : mx_E) (v : Int32 × mx_D × mx_E) (h : b_law_1669 F X k18 l3 D E = some v) : ev X (d + 1) 337 (1669, [some (.ref 2001), some (.ref 0), some (.ref 116), some (.int l3)], [], D, E) (qR (some (.int v.1)) v.2.1 v.2.2) := by
  have hq : kq_m 337 = some kq_q337 := rfl
  unfold b_law_1669 at h
  have hs := lc_s28
  refine gw_n hq hs 5 (S' := (1674, [some (.ref 2001), some (.ref 0), some (.ref 116), some (.int l3)], [.int (l3 + (nI 1)), .ref 2001, .ref 0], D, E)) rfl ?_
  refine gv_ix hq (hs _ _ rfl) rfl h 1675 rfl (fun h => ?_)
  refine gw_n hq hs 4 (S' := (1679, [some (.ref 2001), some (.ref 0), some (.ref 116), some (.int l3)], [.int (l3 + (nI 2)), .ref 2001, .int (X.2 ((l3 + (nI 1))).toNatClampNeg), .ref 0], D, E)) rfl ?_
  refine gv_ix hq (hs _ _ rfl) rfl h 1680 rfl (fun h => ?_)
  obtain ⟨r89, h1, h⟩ := Option.bind_eq_some_iff.mp h
  refine gv_d hq (hs _ _ rfl) rfl rfl rfl rfl (gv_dd (by omega) (t_X_least X F (d - 1) (by omega) E _ _ _ _ h1)) (S' := (1683, [some (.ref 2001), some (.ref 0), some (.ref 116), some (.int l3)], [.int r89.1], r89.2, E)) rfl ?_
  refine gw_n hq hs 5 (S' := (1688, [some (.ref 2001), some (.ref 0), some (.ref 116), some (.int l3)], [.int (l3 + (nI 1)), .ref 2001, .ref 116, .int r89.1], r89.2, E)) rfl ?_
  refine gv_ix hq (hs _ _ rfl) rfl h 1689 rfl (fun h => ?_)
  refine gw_n hq hs 4 (S' := (1693, [some (.ref 2001), some (.ref 0), some (.ref 116), some (.int l3)], [.int (l3 + (nI 2)), .ref 2001, .int (X.2 ((l3 + (nI 1))).toNatClampNeg), .ref 116, .int r89.1], r89.2, E)) rfl ?_
  refine gv_ix hq (hs _ _ rfl) rfl h 1694 rfl (fun h => ?_)
  obtain ⟨r90, h1, h⟩ := Option.bind_eq_some_iff.mp h
  refine gv_d hq (hs _ _ rfl) rfl rfl rfl rfl (gv_dd (by omega) (t_M_least X F (d - 1) (by omega) E _ _ _ _ h1)) (S' := (1697, [some (.ref 2001), some (.ref 0), some (.ref 116), some (.int l3)], [.int r90.1, .int r89.1], r90.2, E)) rfl ?_
  refine gv_b hq (hs _ _ rfl) h 2168 1700 rfl rfl rfl (fun h => ?_) (fun h => ?_)
  · exact gv_w (tb_law_2168 X F d hd k18 K18 _ _ _ _ h) (And.intro rfl (And.intro rfl (And.intro rfl (And.intro rfl trivial))))
  · refine gw_n hq hs 1 (S' := (1701, [some (.ref 2001), some (.ref 0), some (.ref 116), some (.int l3)], [.int (nI 0)], r90.2, E)) rfl ?_
    cases h
    exact ev_ret hq (hs _ _ rfl) rfl ⟨rfl, rfl, rfl⟩
set_option maxRecDepth 100000 in
set_option maxHeartbeats 4000000 in
theorem tb_law_1702 (X : ev_X) (F : Nat) (d : Nat) (hd : 105 ≤ d + 1) (k18 : Int32 → mx_D → mx_E → Option (Int32 × mx_D × mx_E)) (K18 : ∀ (l3 : Int32) (D : mx_D) (E : mx_E) (v : Int32 × mx_D × mx_E), k18 l3 D E = some v → ev X (d + 1) 337 (18, [some (.ref 2001), some (.ref 0), some (.ref 116), some (.int l3)], [], D, E) (qR (some (.int v.1)) v.2.1 v.2.2)) (l3 : Int32) (D : mx_D) (E : mx_E) (v : Int32 × mx_D × mx_E) (h : b_law_1702 F X k18 l3 D E = some v) : ev X (d + 1) 337 (1702, [some (.ref 2001), some (.ref 0), some (.ref 116), some (.int l3)], [], D, E) (qR (some (.int v.1)) v.2.1 v.2.2) := by
  have hq : kq_m 337 = some kq_q337 := rfl
  unfold b_law_1702 at h
  have hs := lc_s28
  refine gw_n hq hs 5 (S' := (1707, [some (.ref 2001), some (.ref 0), some (.ref 116), some (.int l3)], [.int (l3 + (nI 1)), .ref 2001, .ref 0], D, E)) rfl ?_
  refine gv_ix hq (hs _ _ rfl) rfl h 1708 rfl (fun h => ?_)
  refine gw_n hq hs 4 (S' := (1712, [some (.ref 2001), some (.ref 0), some (.ref 116), some (.int l3)], [.int (l3 + (nI 2)), .ref 2001, .int (X.2 ((l3 + (nI 1))).toNatClampNeg), .ref 0], D, E)) rfl ?_
  refine gv_ix hq (hs _ _ rfl) rfl h 1713 rfl (fun h => ?_)
  obtain ⟨r91, h1, h⟩ := Option.bind_eq_some_iff.mp h
  refine gv_d hq (hs _ _ rfl) rfl rfl rfl rfl (gv_dd (by omega) (t_X_seen X F (d - 1) (by omega) E _ _ _ _ h1)) (S' := (1716, [some (.ref 2001), some (.ref 0), some (.ref 116), some (.int l3)], [.int r91.1], r91.2, E)) rfl ?_
  refine gw_n hq hs 5 (S' := (1721, [some (.ref 2001), some (.ref 0), some (.ref 116), some (.int l3)], [.int (l3 + (nI 1)), .ref 2001, .ref 116, .int r91.1], r91.2, E)) rfl ?_
  refine gv_ix hq (hs _ _ rfl) rfl h 1722 rfl (fun h => ?_)
  refine gw_n hq hs 4 (S' := (1726, [some (.ref 2001), some (.ref 0), some (.ref 116), some (.int l3)], [.int (l3 + (nI 2)), .ref 2001, .int (X.2 ((l3 + (nI 1))).toNatClampNeg), .ref 116, .int r91.1], r91.2, E)) rfl ?_
  refine gv_ix hq (hs _ _ rfl) rfl h 1727 rfl (fun h => ?_)
  obtain ⟨r92, h1, h⟩ := Option.bind_eq_some_iff.mp h
  refine gv_d hq (hs _ _ rfl) rfl rfl rfl rfl (gv_dd (by omega) (t_M_seen X F (d - 1) (by omega) E _ _ _ _ h1)) (S' := (1730, [some (.ref 2001), some (.ref 0), some (.ref 116), some (.int l3)], [.int r92.1, .int r91.1], r92.2, E)) rfl ?_
  refine gv_b hq (hs _ _ rfl) h 2168 1733 rfl rfl rfl (fun h => ?_) (fun h => ?_)
  · exact gv_w (tb_law_2168 X F d hd k18 K18 _ _ _ _ h) (And.intro rfl (And.intro rfl (And.intro rfl (And.intro rfl trivial))))
  · refine gw_n hq hs 1 (S' := (1734, [some (.ref 2001), some (.ref 0), some (.ref 116), some (.int l3)], [.int (nI 0)], r92.2, E)) rfl ?_
    cases h
    exact ev_ret hq (hs _ _ rfl) rfl ⟨rfl, rfl, rfl⟩
set_option maxRecDepth 100000 in
set_option maxHeartbeats 4000000 in
theorem tb_law_1735 (X : ev_X) (F : Nat) (d : Nat) (hd : 105 ≤ d + 1) (k18 : Int32 → mx_D → mx_E → Option (Int32 × mx_D × mx_E)) (K18 : ∀ (l3 : Int32) (D : mx_D) (E : mx_E) (v : Int32 × mx_D × mx_E), k18 l3 D E = some v → ev X (d + 1) 337 (18, [some (.ref 2001), some (.ref 0), some (.ref 116), some (.int l3)], [], D, E) (qR (some (.int v.1)) v.2.1 v.2.2)) (l3 : Int32) (D : mx_D) (E : mx_E) (v : Int32 × mx_D × mx_E) (h : b_law_1735 F X k18 l3 D E = some v) : ev X (d + 1) 337 (1735, [some (.ref 2001), some (.ref 0), some (.ref 116), some (.int l3)], [], D, E) (qR (some (.int v.1)) v.2.1 v.2.2) := by
  have hq : kq_m 337 = some kq_q337 := rfl
  unfold b_law_1735 at h
  have hs := lc_s29
  refine gw_n hq hs 5 (S' := (1740, [some (.ref 2001), some (.ref 0), some (.ref 116), some (.int l3)], [.int (l3 + (nI 1)), .ref 2001, .ref 0], D, E)) rfl ?_
  refine gv_ix hq (hs _ _ rfl) rfl h 1741 rfl (fun h => ?_)
  refine gw_n hq hs 4 (S' := (1745, [some (.ref 2001), some (.ref 0), some (.ref 116), some (.int l3)], [.int (l3 + (nI 2)), .ref 2001, .int (X.2 ((l3 + (nI 1))).toNatClampNeg), .ref 0], D, E)) rfl ?_
  refine gv_ix hq (hs _ _ rfl) rfl h 1746 rfl (fun h => ?_)
  refine gw_n hq hs 4 (S' := (1750, [some (.ref 2001), some (.ref 0), some (.ref 116), some (.int l3)], [.int (l3 + (nI 3)), .ref 2001, .int (X.2 ((l3 + (nI 2))).toNatClampNeg), .int (X.2 ((l3 + (nI 1))).toNatClampNeg), .ref 0], D, E)) rfl ?_
  refine gv_ix hq (hs _ _ rfl) rfl h 1751 rfl (fun h => ?_)
  obtain ⟨r93, h1, h⟩ := Option.bind_eq_some_iff.mp h
  refine gv_d hq (hs _ _ rfl) rfl rfl rfl rfl (gv_dd (by omega) (t_X_sure X F (d - 1) (by omega) E _ _ _ _ _ h1)) (S' := (1754, [some (.ref 2001), some (.ref 0), some (.ref 116), some (.int l3)], [.int r93.1], r93.2, E)) rfl ?_
  refine gw_n hq hs 5 (S' := (1759, [some (.ref 2001), some (.ref 0), some (.ref 116), some (.int l3)], [.int (l3 + (nI 1)), .ref 2001, .ref 116, .int r93.1], r93.2, E)) rfl ?_
  refine gv_ix hq (hs _ _ rfl) rfl h 1760 rfl (fun h => ?_)
  refine gw_n hq hs 4 (S' := (1764, [some (.ref 2001), some (.ref 0), some (.ref 116), some (.int l3)], [.int (l3 + (nI 2)), .ref 2001, .int (X.2 ((l3 + (nI 1))).toNatClampNeg), .ref 116, .int r93.1], r93.2, E)) rfl ?_
  refine gv_ix hq (hs _ _ rfl) rfl h 1765 rfl (fun h => ?_)
  refine gw_n hq hs 4 (S' := (1769, [some (.ref 2001), some (.ref 0), some (.ref 116), some (.int l3)], [.int (l3 + (nI 3)), .ref 2001, .int (X.2 ((l3 + (nI 2))).toNatClampNeg), .int (X.2 ((l3 + (nI 1))).toNatClampNeg), .ref 116, .int r93.1], r93.2, E)) rfl ?_
  refine gv_ix hq (hs _ _ rfl) rfl h 1770 rfl (fun h => ?_)
  obtain ⟨r94, h1, h⟩ := Option.bind_eq_some_iff.mp h
  refine gv_d hq (hs _ _ rfl) rfl rfl rfl rfl (gv_dd (by omega) (t_M_sure X F (d - 1) (by omega) E _ _ _ _ _ h1)) (S' := (1773, [some (.ref 2001), some (.ref 0), some (.ref 116), some (.int l3)], [.int r94.1, .int r93.1], r94.2, E)) rfl ?_
  refine gv_b hq (hs _ _ rfl) h 2168 1776 rfl rfl rfl (fun h => ?_) (fun h => ?_)
  · exact gv_w (tb_law_2168 X F d hd k18 K18 _ _ _ _ h) (And.intro rfl (And.intro rfl (And.intro rfl (And.intro rfl trivial))))
  · refine gw_n hq hs 1 (S' := (1777, [some (.ref 2001), some (.ref 0), some (.ref 116), some (.int l3)], [.int (nI 0)], r94.2, E)) rfl ?_
    cases h
    exact ev_ret hq (hs _ _ rfl) rfl ⟨rfl, rfl, rfl⟩
set_option maxRecDepth 100000 in
set_option maxHeartbeats 4000000 in
theorem tb_law_1778 (X : ev_X) (F : Nat) (d : Nat) (hd : 105 ≤ d + 1) (k18 : Int32 → mx_D → mx_E → Option (Int32 × mx_D × mx_E)) (K18 : ∀ (l3 : Int32) (D : mx_D) (E : mx_E) (v : Int32 × mx_D × mx_E), k18 l3 D E = some v → ev X (d + 1) 337 (18, [some (.ref 2001), some (.ref 0), some (.ref 116), some (.int l3)], [], D, E) (qR (some (.int v.1)) v.2.1 v.2.2)) (l3 : Int32) (D : mx_D) (E : mx_E) (v : Int32 × mx_D × mx_E) (h : b_law_1778 F X k18 l3 D E = some v) : ev X (d + 1) 337 (1778, [some (.ref 2001), some (.ref 0), some (.ref 116), some (.int l3)], [], D, E) (qR (some (.int v.1)) v.2.1 v.2.2) := by
  have hq : kq_m 337 = some kq_q337 := rfl
  unfold b_law_1778 at h
  have hs := lc_s30
  refine gw_n hq hs 5 (S' := (1783, [some (.ref 2001), some (.ref 0), some (.ref 116), some (.int l3)], [.int (l3 + (nI 1)), .ref 2001, .ref 0], D, E)) rfl ?_
  refine gv_ix hq (hs _ _ rfl) rfl h 1784 rfl (fun h => ?_)
  refine gw_n hq hs 4 (S' := (1788, [some (.ref 2001), some (.ref 0), some (.ref 116), some (.int l3)], [.int (l3 + (nI 2)), .ref 2001, .int (X.2 ((l3 + (nI 1))).toNatClampNeg), .ref 0], D, E)) rfl ?_
  refine gv_ix hq (hs _ _ rfl) rfl h 1789 rfl (fun h => ?_)
  obtain ⟨r95, h1, h⟩ := Option.bind_eq_some_iff.mp h
  refine gv_d hq (hs _ _ rfl) rfl rfl rfl rfl (gv_dd (by omega) (t_X_odd X F (d - 1) (by omega) E _ _ _ _ h1)) (S' := (1792, [some (.ref 2001), some (.ref 0), some (.ref 116), some (.int l3)], [.int r95.1], r95.2, E)) rfl ?_
  refine gw_n hq hs 5 (S' := (1797, [some (.ref 2001), some (.ref 0), some (.ref 116), some (.int l3)], [.int (l3 + (nI 1)), .ref 2001, .ref 116, .int r95.1], r95.2, E)) rfl ?_
  refine gv_ix hq (hs _ _ rfl) rfl h 1798 rfl (fun h => ?_)
  refine gw_n hq hs 4 (S' := (1802, [some (.ref 2001), some (.ref 0), some (.ref 116), some (.int l3)], [.int (l3 + (nI 2)), .ref 2001, .int (X.2 ((l3 + (nI 1))).toNatClampNeg), .ref 116, .int r95.1], r95.2, E)) rfl ?_
  refine gv_ix hq (hs _ _ rfl) rfl h 1803 rfl (fun h => ?_)
  obtain ⟨r96, h1, h⟩ := Option.bind_eq_some_iff.mp h
  refine gv_d hq (hs _ _ rfl) rfl rfl rfl rfl (gv_dd (by omega) (t_M_odd X F (d - 1) (by omega) r95.2 E _ _ _ h1)) (S' := (1806, [some (.ref 2001), some (.ref 0), some (.ref 116), some (.int l3)], [.int r96, .int r95.1], r95.2, E)) rfl ?_
  refine gv_b hq (hs _ _ rfl) h 2168 1809 rfl rfl rfl (fun h => ?_) (fun h => ?_)
  · exact gv_w (tb_law_2168 X F d hd k18 K18 _ _ _ _ h) (And.intro rfl (And.intro rfl (And.intro rfl (And.intro rfl trivial))))
  · refine gw_n hq hs 1 (S' := (1810, [some (.ref 2001), some (.ref 0), some (.ref 116), some (.int l3)], [.int (nI 0)], r95.2, E)) rfl ?_
    cases h
    exact ev_ret hq (hs _ _ rfl) rfl ⟨rfl, rfl, rfl⟩
set_option maxRecDepth 100000 in
set_option maxHeartbeats 4000000 in
theorem tb_law_1811 (X : ev_X) (F : Nat) (d : Nat) (hd : 105 ≤ d + 1) (k18 : Int32 → mx_D → mx_E → Option (Int32 × mx_D × mx_E)) (K18 : ∀ (l3 : Int32) (D : mx_D) (E : mx_E) (v : Int32 × mx_D × mx_E), k18 l3 D E = some v → ev X (d + 1) 337 (18, [some (.ref 2001), some (.ref 0), some (.ref 116), some (.int l3)], [], D, E) (qR (some (.int v.1)) v.2.1 v.2.2)) (l3 : Int32) (D : mx_D) (E : mx_E) (v : Int32 × mx_D × mx_E) (h : b_law_1811 F X k18 l3 D E = some v) : ev X (d + 1) 337 (1811, [some (.ref 2001), some (.ref 0), some (.ref 116), some (.int l3)], [], D, E) (qR (some (.int v.1)) v.2.1 v.2.2) := by
  have hq : kq_m 337 = some kq_q337 := rfl
  unfold b_law_1811 at h
  have hs := lc_s30
  refine gw_n hq hs 5 (S' := (1816, [some (.ref 2001), some (.ref 0), some (.ref 116), some (.int l3)], [.int (l3 + (nI 1)), .ref 2001, .ref 0], D, E)) rfl ?_
  refine gv_ix hq (hs _ _ rfl) rfl h 1817 rfl (fun h => ?_)
  obtain ⟨r97, h1, h⟩ := Option.bind_eq_some_iff.mp h
  refine gv_d hq (hs _ _ rfl) rfl rfl rfl rfl (gv_dd (by omega) (t_X_drawn X F (d - 1) (by omega) E _ _ _ h1)) (S' := (1820, [some (.ref 2001), some (.ref 0), some (.ref 116), some (.int l3)], [.int r97.1], r97.2, E)) rfl ?_
  refine gw_n hq hs 5 (S' := (1825, [some (.ref 2001), some (.ref 0), some (.ref 116), some (.int l3)], [.int (l3 + (nI 1)), .ref 2001, .ref 116, .int r97.1], r97.2, E)) rfl ?_
  refine gv_ix hq (hs _ _ rfl) rfl h 1826 rfl (fun h => ?_)
  obtain ⟨r98, h1, h⟩ := Option.bind_eq_some_iff.mp h
  refine gv_d hq (hs _ _ rfl) rfl rfl rfl rfl (gv_dd (by omega) (t_M_drawn X F (d - 1) (by omega) _ _ _ _ h1)) (S' := (1829, [some (.ref 2001), some (.ref 0), some (.ref 116), some (.int l3)], [.int r98.1, .int r97.1], r98.2.1, r98.2.2)) rfl ?_
  refine gv_b hq (hs _ _ rfl) h 2168 1832 rfl rfl rfl (fun h => ?_) (fun h => ?_)
  · exact gv_w (tb_law_2168 X F d hd k18 K18 _ _ _ _ h) (And.intro rfl (And.intro rfl (And.intro rfl (And.intro rfl trivial))))
  · refine gw_n hq hs 1 (S' := (1833, [some (.ref 2001), some (.ref 0), some (.ref 116), some (.int l3)], [.int (nI 0)], r98.2.1, r98.2.2)) rfl ?_
    cases h
    exact ev_ret hq (hs _ _ rfl) rfl ⟨rfl, rfl, rfl⟩
set_option maxRecDepth 100000 in
set_option maxHeartbeats 4000000 in
theorem tb_law_1834 (X : ev_X) (F : Nat) (d : Nat) (hd : 105 ≤ d + 1) (k18 : Int32 → mx_D → mx_E → Option (Int32 × mx_D × mx_E)) (K18 : ∀ (l3 : Int32) (D : mx_D) (E : mx_E) (v : Int32 × mx_D × mx_E), k18 l3 D E = some v → ev X (d + 1) 337 (18, [some (.ref 2001), some (.ref 0), some (.ref 116), some (.int l3)], [], D, E) (qR (some (.int v.1)) v.2.1 v.2.2)) (l3 : Int32) (D : mx_D) (E : mx_E) (v : Int32 × mx_D × mx_E) (h : b_law_1834 F X k18 l3 D E = some v) : ev X (d + 1) 337 (1834, [some (.ref 2001), some (.ref 0), some (.ref 116), some (.int l3)], [], D, E) (qR (some (.int v.1)) v.2.1 v.2.2) := by
  have hq : kq_m 337 = some kq_q337 := rfl
  unfold b_law_1834 at h
  have hs := lc_s31
  refine gw_n hq hs 5 (S' := (1839, [some (.ref 2001), some (.ref 0), some (.ref 116), some (.int l3)], [.int (l3 + (nI 1)), .ref 2001, .ref 0], D, E)) rfl ?_
  refine gv_ix hq (hs _ _ rfl) rfl h 1840 rfl (fun h => ?_)
  refine gw_n hq hs 4 (S' := (1844, [some (.ref 2001), some (.ref 0), some (.ref 116), some (.int l3)], [.int (l3 + (nI 2)), .ref 2001, .int (X.2 ((l3 + (nI 1))).toNatClampNeg), .ref 0], D, E)) rfl ?_
  refine gv_ix hq (hs _ _ rfl) rfl h 1845 rfl (fun h => ?_)
  refine gw_n hq hs 4 (S' := (1849, [some (.ref 2001), some (.ref 0), some (.ref 116), some (.int l3)], [.int (l3 + (nI 3)), .ref 2001, .int (X.2 ((l3 + (nI 2))).toNatClampNeg), .int (X.2 ((l3 + (nI 1))).toNatClampNeg), .ref 0], D, E)) rfl ?_
  refine gv_ix hq (hs _ _ rfl) rfl h 1850 rfl (fun h => ?_)
  obtain ⟨r99, h1, h⟩ := Option.bind_eq_some_iff.mp h
  refine gv_d hq (hs _ _ rfl) rfl rfl rfl rfl (gv_dd (by omega) (t_X_grown X F (d - 1) (by omega) E _ _ _ _ _ h1)) (S' := (1853, [some (.ref 2001), some (.ref 0), some (.ref 116), some (.int l3)], [.int r99.1], r99.2, E)) rfl ?_
  refine gw_n hq hs 5 (S' := (1858, [some (.ref 2001), some (.ref 0), some (.ref 116), some (.int l3)], [.int (l3 + (nI 1)), .ref 2001, .ref 116, .int r99.1], r99.2, E)) rfl ?_
  refine gv_ix hq (hs _ _ rfl) rfl h 1859 rfl (fun h => ?_)
  refine gw_n hq hs 4 (S' := (1863, [some (.ref 2001), some (.ref 0), some (.ref 116), some (.int l3)], [.int (l3 + (nI 2)), .ref 2001, .int (X.2 ((l3 + (nI 1))).toNatClampNeg), .ref 116, .int r99.1], r99.2, E)) rfl ?_
  refine gv_ix hq (hs _ _ rfl) rfl h 1864 rfl (fun h => ?_)
  refine gw_n hq hs 4 (S' := (1868, [some (.ref 2001), some (.ref 0), some (.ref 116), some (.int l3)], [.int (l3 + (nI 3)), .ref 2001, .int (X.2 ((l3 + (nI 2))).toNatClampNeg), .int (X.2 ((l3 + (nI 1))).toNatClampNeg), .ref 116, .int r99.1], r99.2, E)) rfl ?_
  refine gv_ix hq (hs _ _ rfl) rfl h 1869 rfl (fun h => ?_)
  obtain ⟨r100, h1, h⟩ := Option.bind_eq_some_iff.mp h
  refine gv_d hq (hs _ _ rfl) rfl rfl rfl rfl (gv_dd (by omega) (t_M_grown X F (d - 1) (by omega) _ _ _ _ _ _ h1)) (S' := (1872, [some (.ref 2001), some (.ref 0), some (.ref 116), some (.int l3)], [.int r100.1, .int r99.1], r100.2.1, r100.2.2)) rfl ?_
  refine gv_b hq (hs _ _ rfl) h 2168 1875 rfl rfl rfl (fun h => ?_) (fun h => ?_)
  · exact gv_w (tb_law_2168 X F d hd k18 K18 _ _ _ _ h) (And.intro rfl (And.intro rfl (And.intro rfl (And.intro rfl trivial))))
  · refine gw_n hq hs 1 (S' := (1876, [some (.ref 2001), some (.ref 0), some (.ref 116), some (.int l3)], [.int (nI 0)], r100.2.1, r100.2.2)) rfl ?_
    cases h
    exact ev_ret hq (hs _ _ rfl) rfl ⟨rfl, rfl, rfl⟩
set_option maxRecDepth 100000 in
set_option maxHeartbeats 4000000 in
theorem tb_law_1877 (X : ev_X) (F : Nat) (d : Nat) (hd : 105 ≤ d + 1) (k18 : Int32 → mx_D → mx_E → Option (Int32 × mx_D × mx_E)) (K18 : ∀ (l3 : Int32) (D : mx_D) (E : mx_E) (v : Int32 × mx_D × mx_E), k18 l3 D E = some v → ev X (d + 1) 337 (18, [some (.ref 2001), some (.ref 0), some (.ref 116), some (.int l3)], [], D, E) (qR (some (.int v.1)) v.2.1 v.2.2)) (l3 : Int32) (D : mx_D) (E : mx_E) (v : Int32 × mx_D × mx_E) (h : b_law_1877 F X k18 l3 D E = some v) : ev X (d + 1) 337 (1877, [some (.ref 2001), some (.ref 0), some (.ref 116), some (.int l3)], [], D, E) (qR (some (.int v.1)) v.2.1 v.2.2) := by
  have hq : kq_m 337 = some kq_q337 := rfl
  unfold b_law_1877 at h
  have hs := lc_s32
  refine gw_n hq hs 5 (S' := (1882, [some (.ref 2001), some (.ref 0), some (.ref 116), some (.int l3)], [.int (l3 + (nI 1)), .ref 2001, .ref 0], D, E)) rfl ?_
  refine gv_ix hq (hs _ _ rfl) rfl h 1883 rfl (fun h => ?_)
  refine gw_n hq hs 4 (S' := (1887, [some (.ref 2001), some (.ref 0), some (.ref 116), some (.int l3)], [.int (l3 + (nI 2)), .ref 2001, .int (X.2 ((l3 + (nI 1))).toNatClampNeg), .ref 0], D, E)) rfl ?_
  refine gv_ix hq (hs _ _ rfl) rfl h 1888 rfl (fun h => ?_)
  refine gw_n hq hs 4 (S' := (1892, [some (.ref 2001), some (.ref 0), some (.ref 116), some (.int l3)], [.int (l3 + (nI 3)), .ref 2001, .int (X.2 ((l3 + (nI 2))).toNatClampNeg), .int (X.2 ((l3 + (nI 1))).toNatClampNeg), .ref 0], D, E)) rfl ?_
  refine gv_ix hq (hs _ _ rfl) rfl h 1893 rfl (fun h => ?_)
  obtain ⟨r101, h1, h⟩ := Option.bind_eq_some_iff.mp h
  refine gv_d hq (hs _ _ rfl) rfl rfl rfl rfl (gv_dd (by omega) (t_X_years X F (d - 1) (by omega) E _ _ _ _ _ h1)) (S' := (1896, [some (.ref 2001), some (.ref 0), some (.ref 116), some (.int l3)], [.int r101.1], r101.2, E)) rfl ?_
  refine gw_n hq hs 5 (S' := (1901, [some (.ref 2001), some (.ref 0), some (.ref 116), some (.int l3)], [.int (l3 + (nI 1)), .ref 2001, .ref 116, .int r101.1], r101.2, E)) rfl ?_
  refine gv_ix hq (hs _ _ rfl) rfl h 1902 rfl (fun h => ?_)
  refine gw_n hq hs 4 (S' := (1906, [some (.ref 2001), some (.ref 0), some (.ref 116), some (.int l3)], [.int (l3 + (nI 2)), .ref 2001, .int (X.2 ((l3 + (nI 1))).toNatClampNeg), .ref 116, .int r101.1], r101.2, E)) rfl ?_
  refine gv_ix hq (hs _ _ rfl) rfl h 1907 rfl (fun h => ?_)
  refine gw_n hq hs 4 (S' := (1911, [some (.ref 2001), some (.ref 0), some (.ref 116), some (.int l3)], [.int (l3 + (nI 3)), .ref 2001, .int (X.2 ((l3 + (nI 2))).toNatClampNeg), .int (X.2 ((l3 + (nI 1))).toNatClampNeg), .ref 116, .int r101.1], r101.2, E)) rfl ?_
  refine gv_ix hq (hs _ _ rfl) rfl h 1912 rfl (fun h => ?_)
  obtain ⟨r102, h1, h⟩ := Option.bind_eq_some_iff.mp h
  refine gv_d hq (hs _ _ rfl) rfl rfl rfl rfl (gv_dd (by omega) (t_M_years X F (d - 1) (by omega) _ _ _ _ _ _ h1)) (S' := (1915, [some (.ref 2001), some (.ref 0), some (.ref 116), some (.int l3)], [.int r102.1, .int r101.1], r102.2.1, r102.2.2)) rfl ?_
  refine gv_b hq (hs _ _ rfl) h 2168 1918 rfl rfl rfl (fun h => ?_) (fun h => ?_)
  · exact gv_w (tb_law_2168 X F d hd k18 K18 _ _ _ _ h) (And.intro rfl (And.intro rfl (And.intro rfl (And.intro rfl trivial))))
  · refine gw_n hq hs 1 (S' := (1919, [some (.ref 2001), some (.ref 0), some (.ref 116), some (.int l3)], [.int (nI 0)], r102.2.1, r102.2.2)) rfl ?_
    cases h
    exact ev_ret hq (hs _ _ rfl) rfl ⟨rfl, rfl, rfl⟩
set_option maxRecDepth 100000 in
set_option maxHeartbeats 4000000 in
theorem tb_law_1920 (X : ev_X) (F : Nat) (d : Nat) (hd : 105 ≤ d + 1) (k18 : Int32 → mx_D → mx_E → Option (Int32 × mx_D × mx_E)) (K18 : ∀ (l3 : Int32) (D : mx_D) (E : mx_E) (v : Int32 × mx_D × mx_E), k18 l3 D E = some v → ev X (d + 1) 337 (18, [some (.ref 2001), some (.ref 0), some (.ref 116), some (.int l3)], [], D, E) (qR (some (.int v.1)) v.2.1 v.2.2)) (l3 : Int32) (D : mx_D) (E : mx_E) (v : Int32 × mx_D × mx_E) (h : b_law_1920 F X k18 l3 D E = some v) : ev X (d + 1) 337 (1920, [some (.ref 2001), some (.ref 0), some (.ref 116), some (.int l3)], [], D, E) (qR (some (.int v.1)) v.2.1 v.2.2) := by
  have hq : kq_m 337 = some kq_q337 := rfl
  unfold b_law_1920 at h
  have hs := lc_s33
  refine gw_n hq hs 5 (S' := (1925, [some (.ref 2001), some (.ref 0), some (.ref 116), some (.int l3)], [.int (l3 + (nI 1)), .ref 2001, .ref 0], D, E)) rfl ?_
  refine gv_ix hq (hs _ _ rfl) rfl h 1926 rfl (fun h => ?_)
  obtain ⟨r103, h1, h⟩ := Option.bind_eq_some_iff.mp h
  refine gv_d hq (hs _ _ rfl) rfl rfl rfl rfl (gv_dd (by omega) (t_X_count X F (d - 1) (by omega) D E _ _ h1)) (S' := (1929, [some (.ref 2001), some (.ref 0), some (.ref 116), some (.int l3)], [.int r103], D, E)) rfl ?_
  refine gw_n hq hs 5 (S' := (1934, [some (.ref 2001), some (.ref 0), some (.ref 116), some (.int l3)], [.int (l3 + (nI 1)), .ref 2001, .ref 116, .int r103], D, E)) rfl ?_
  refine gv_ix hq (hs _ _ rfl) rfl h 1935 rfl (fun h => ?_)
  obtain ⟨r104, h1, h⟩ := Option.bind_eq_some_iff.mp h
  refine gv_d hq (hs _ _ rfl) rfl rfl rfl rfl (gv_dd (by omega) (t_M_count X F (d - 1) (by omega) D E _ _ h1)) (S' := (1938, [some (.ref 2001), some (.ref 0), some (.ref 116), some (.int l3)], [.int r104, .int r103], D, E)) rfl ?_
  refine gv_b hq (hs _ _ rfl) h 2168 1941 rfl rfl rfl (fun h => ?_) (fun h => ?_)
  · exact gv_w (tb_law_2168 X F d hd k18 K18 _ _ _ _ h) (And.intro rfl (And.intro rfl (And.intro rfl (And.intro rfl trivial))))
  · refine gw_n hq hs 1 (S' := (1942, [some (.ref 2001), some (.ref 0), some (.ref 116), some (.int l3)], [.int (nI 0)], D, E)) rfl ?_
    cases h
    exact ev_ret hq (hs _ _ rfl) rfl ⟨rfl, rfl, rfl⟩
set_option maxRecDepth 100000 in
set_option maxHeartbeats 4000000 in
theorem tb_law_1943 (X : ev_X) (F : Nat) (d : Nat) (hd : 105 ≤ d + 1) (k18 : Int32 → mx_D → mx_E → Option (Int32 × mx_D × mx_E)) (K18 : ∀ (l3 : Int32) (D : mx_D) (E : mx_E) (v : Int32 × mx_D × mx_E), k18 l3 D E = some v → ev X (d + 1) 337 (18, [some (.ref 2001), some (.ref 0), some (.ref 116), some (.int l3)], [], D, E) (qR (some (.int v.1)) v.2.1 v.2.2)) (l3 : Int32) (D : mx_D) (E : mx_E) (v : Int32 × mx_D × mx_E) (h : b_law_1943 F X k18 l3 D E = some v) : ev X (d + 1) 337 (1943, [some (.ref 2001), some (.ref 0), some (.ref 116), some (.int l3)], [], D, E) (qR (some (.int v.1)) v.2.1 v.2.2) := by
  have hq : kq_m 337 = some kq_q337 := rfl
  unfold b_law_1943 at h
  have hs := lc_s33
  refine gw_n hq hs 5 (S' := (1948, [some (.ref 2001), some (.ref 0), some (.ref 116), some (.int l3)], [.int (l3 + (nI 1)), .ref 2001, .ref 0], D, E)) rfl ?_
  refine gv_ix hq (hs _ _ rfl) rfl h 1949 rfl (fun h => ?_)
  obtain ⟨r105, h1, h⟩ := Option.bind_eq_some_iff.mp h
  refine gv_d hq (hs _ _ rfl) rfl rfl rfl rfl (gv_dd (by omega) (t_X_image X (d - 1) (by omega) E _ _ _ h1)) (S' := (1952, [some (.ref 2001), some (.ref 0), some (.ref 116), some (.int l3)], [.int r105.1], r105.2, E)) rfl ?_
  refine gw_n hq hs 5 (S' := (1957, [some (.ref 2001), some (.ref 0), some (.ref 116), some (.int l3)], [.int (l3 + (nI 1)), .ref 2001, .ref 116, .int r105.1], r105.2, E)) rfl ?_
  refine gv_ix hq (hs _ _ rfl) rfl h 1958 rfl (fun h => ?_)
  obtain ⟨r106, h1, h⟩ := Option.bind_eq_some_iff.mp h
  refine gv_d hq (hs _ _ rfl) rfl rfl rfl rfl (gv_dd (by omega) (t_M_image X F (d - 1) (by omega) E _ _ _ h1)) (S' := (1961, [some (.ref 2001), some (.ref 0), some (.ref 116), some (.int l3)], [.int r106.1, .int r105.1], r106.2, E)) rfl ?_
  refine gv_b hq (hs _ _ rfl) h 2168 1964 rfl rfl rfl (fun h => ?_) (fun h => ?_)
  · exact gv_w (tb_law_2168 X F d hd k18 K18 _ _ _ _ h) (And.intro rfl (And.intro rfl (And.intro rfl (And.intro rfl trivial))))
  · refine gw_n hq hs 1 (S' := (1965, [some (.ref 2001), some (.ref 0), some (.ref 116), some (.int l3)], [.int (nI 0)], r106.2, E)) rfl ?_
    cases h
    exact ev_ret hq (hs _ _ rfl) rfl ⟨rfl, rfl, rfl⟩
set_option maxRecDepth 100000 in
set_option maxHeartbeats 4000000 in
theorem tb_law_1966 (X : ev_X) (F : Nat) (d : Nat) (hd : 105 ≤ d + 1) (k18 : Int32 → mx_D → mx_E → Option (Int32 × mx_D × mx_E)) (K18 : ∀ (l3 : Int32) (D : mx_D) (E : mx_E) (v : Int32 × mx_D × mx_E), k18 l3 D E = some v → ev X (d + 1) 337 (18, [some (.ref 2001), some (.ref 0), some (.ref 116), some (.int l3)], [], D, E) (qR (some (.int v.1)) v.2.1 v.2.2)) (l3 : Int32) (D : mx_D) (E : mx_E) (v : Int32 × mx_D × mx_E) (h : b_law_1966 F X k18 l3 D E = some v) : ev X (d + 1) 337 (1966, [some (.ref 2001), some (.ref 0), some (.ref 116), some (.int l3)], [], D, E) (qR (some (.int v.1)) v.2.1 v.2.2) := by
  have hq : kq_m 337 = some kq_q337 := rfl
  unfold b_law_1966 at h
  have hs := lc_s34
  refine gw_n hq hs 5 (S' := (1971, [some (.ref 2001), some (.ref 0), some (.ref 116), some (.int l3)], [.int (l3 + (nI 1)), .ref 2001, .ref 0], D, E)) rfl ?_
  refine gv_ix hq (hs _ _ rfl) rfl h 1972 rfl (fun h => ?_)
  obtain ⟨r107, h1, h⟩ := Option.bind_eq_some_iff.mp h
  refine gv_d hq (hs _ _ rfl) rfl rfl rfl rfl (gv_dd (by omega) (t_X_back X (d - 1) (by omega) E _ _ _ h1)) (S' := (1975, [some (.ref 2001), some (.ref 0), some (.ref 116), some (.int l3)], [.int r107.1], r107.2, E)) rfl ?_
  refine gw_n hq hs 5 (S' := (1980, [some (.ref 2001), some (.ref 0), some (.ref 116), some (.int l3)], [.int (l3 + (nI 1)), .ref 2001, .ref 116, .int r107.1], r107.2, E)) rfl ?_
  refine gv_ix hq (hs _ _ rfl) rfl h 1981 rfl (fun h => ?_)
  obtain ⟨r108, h1, h⟩ := Option.bind_eq_some_iff.mp h
  refine gv_d hq (hs _ _ rfl) rfl rfl rfl rfl (gv_dd (by omega) (t_M_back X F (d - 1) (by omega) E _ _ _ h1)) (S' := (1984, [some (.ref 2001), some (.ref 0), some (.ref 116), some (.int l3)], [.int r108.1, .int r107.1], r108.2, E)) rfl ?_
  refine gv_b hq (hs _ _ rfl) h 2168 1987 rfl rfl rfl (fun h => ?_) (fun h => ?_)
  · exact gv_w (tb_law_2168 X F d hd k18 K18 _ _ _ _ h) (And.intro rfl (And.intro rfl (And.intro rfl (And.intro rfl trivial))))
  · refine gw_n hq hs 1 (S' := (1988, [some (.ref 2001), some (.ref 0), some (.ref 116), some (.int l3)], [.int (nI 0)], r108.2, E)) rfl ?_
    cases h
    exact ev_ret hq (hs _ _ rfl) rfl ⟨rfl, rfl, rfl⟩
set_option maxRecDepth 100000 in
set_option maxHeartbeats 4000000 in
theorem tb_law_1989 (X : ev_X) (F : Nat) (d : Nat) (hd : 105 ≤ d + 1) (k18 : Int32 → mx_D → mx_E → Option (Int32 × mx_D × mx_E)) (K18 : ∀ (l3 : Int32) (D : mx_D) (E : mx_E) (v : Int32 × mx_D × mx_E), k18 l3 D E = some v → ev X (d + 1) 337 (18, [some (.ref 2001), some (.ref 0), some (.ref 116), some (.int l3)], [], D, E) (qR (some (.int v.1)) v.2.1 v.2.2)) (l3 : Int32) (D : mx_D) (E : mx_E) (v : Int32 × mx_D × mx_E) (h : b_law_1989 F X k18 l3 D E = some v) : ev X (d + 1) 337 (1989, [some (.ref 2001), some (.ref 0), some (.ref 116), some (.int l3)], [], D, E) (qR (some (.int v.1)) v.2.1 v.2.2) := by
  have hq : kq_m 337 = some kq_q337 := rfl
  unfold b_law_1989 at h
  have hs := lc_s34
  refine gw_n hq hs 5 (S' := (1994, [some (.ref 2001), some (.ref 0), some (.ref 116), some (.int l3)], [.int (l3 + (nI 1)), .ref 2001, .ref 0], D, E)) rfl ?_
  refine gv_ix hq (hs _ _ rfl) rfl h 1995 rfl (fun h => ?_)
  refine gw_n hq hs 4 (S' := (1999, [some (.ref 2001), some (.ref 0), some (.ref 116), some (.int l3)], [.int (l3 + (nI 2)), .ref 2001, .int (X.2 ((l3 + (nI 1))).toNatClampNeg), .ref 0], D, E)) rfl ?_
  refine gv_ix hq (hs _ _ rfl) rfl h 2000 rfl (fun h => ?_)
  refine gw_n hq hs 4 (S' := (2004, [some (.ref 2001), some (.ref 0), some (.ref 116), some (.int l3)], [.int (l3 + (nI 3)), .ref 2001, .int (X.2 ((l3 + (nI 2))).toNatClampNeg), .int (X.2 ((l3 + (nI 1))).toNatClampNeg), .ref 0], D, E)) rfl ?_
  refine gv_ix hq (hs _ _ rfl) rfl h 2005 rfl (fun h => ?_)
  obtain ⟨r109, h1, h⟩ := Option.bind_eq_some_iff.mp h
  refine gv_d hq (hs _ _ rfl) rfl rfl rfl rfl (gv_dd (by omega) (t_X_row X F (d - 1) (by omega) _ _ _ _ _ _ h1)) (S' := (2008, [some (.ref 2001), some (.ref 0), some (.ref 116), some (.int l3)], [.int r109.1], r109.2.1, r109.2.2)) rfl ?_
  refine gw_n hq hs 5 (S' := (2013, [some (.ref 2001), some (.ref 0), some (.ref 116), some (.int l3)], [.int (l3 + (nI 1)), .ref 2001, .ref 116, .int r109.1], r109.2.1, r109.2.2)) rfl ?_
  refine gv_ix hq (hs _ _ rfl) rfl h 2014 rfl (fun h => ?_)
  refine gw_n hq hs 4 (S' := (2018, [some (.ref 2001), some (.ref 0), some (.ref 116), some (.int l3)], [.int (l3 + (nI 2)), .ref 2001, .int (X.2 ((l3 + (nI 1))).toNatClampNeg), .ref 116, .int r109.1], r109.2.1, r109.2.2)) rfl ?_
  refine gv_ix hq (hs _ _ rfl) rfl h 2019 rfl (fun h => ?_)
  refine gw_n hq hs 4 (S' := (2023, [some (.ref 2001), some (.ref 0), some (.ref 116), some (.int l3)], [.int (l3 + (nI 3)), .ref 2001, .int (X.2 ((l3 + (nI 2))).toNatClampNeg), .int (X.2 ((l3 + (nI 1))).toNatClampNeg), .ref 116, .int r109.1], r109.2.1, r109.2.2)) rfl ?_
  refine gv_ix hq (hs _ _ rfl) rfl h 2024 rfl (fun h => ?_)
  obtain ⟨r110, h1, h⟩ := Option.bind_eq_some_iff.mp h
  refine gv_d hq (hs _ _ rfl) rfl rfl rfl rfl (gv_dd (by omega) (t_M_row X F (d - 1) (by omega) _ _ _ _ _ _ h1)) (S' := (2027, [some (.ref 2001), some (.ref 0), some (.ref 116), some (.int l3)], [.int r110.1, .int r109.1], r110.2.1, r110.2.2)) rfl ?_
  refine gv_b hq (hs _ _ rfl) h 2168 2030 rfl rfl rfl (fun h => ?_) (fun h => ?_)
  · exact gv_w (tb_law_2168 X F d hd k18 K18 _ _ _ _ h) (And.intro rfl (And.intro rfl (And.intro rfl (And.intro rfl trivial))))
  · refine gw_n hq hs 1 (S' := (2031, [some (.ref 2001), some (.ref 0), some (.ref 116), some (.int l3)], [.int (nI 0)], r110.2.1, r110.2.2)) rfl ?_
    cases h
    exact ev_ret hq (hs _ _ rfl) rfl ⟨rfl, rfl, rfl⟩
set_option maxRecDepth 100000 in
set_option maxHeartbeats 4000000 in
theorem tb_law_2032 (X : ev_X) (F : Nat) (d : Nat) (hd : 105 ≤ d + 1) (k18 : Int32 → mx_D → mx_E → Option (Int32 × mx_D × mx_E)) (K18 : ∀ (l3 : Int32) (D : mx_D) (E : mx_E) (v : Int32 × mx_D × mx_E), k18 l3 D E = some v → ev X (d + 1) 337 (18, [some (.ref 2001), some (.ref 0), some (.ref 116), some (.int l3)], [], D, E) (qR (some (.int v.1)) v.2.1 v.2.2)) (l3 : Int32) (D : mx_D) (E : mx_E) (v : Int32 × mx_D × mx_E) (h : b_law_2032 F X k18 l3 D E = some v) : ev X (d + 1) 337 (2032, [some (.ref 2001), some (.ref 0), some (.ref 116), some (.int l3)], [], D, E) (qR (some (.int v.1)) v.2.1 v.2.2) := by
  have hq : kq_m 337 = some kq_q337 := rfl
  unfold b_law_2032 at h
  have hs := lc_s35
  refine gw_n hq hs 5 (S' := (2037, [some (.ref 2001), some (.ref 0), some (.ref 116), some (.int l3)], [.int (l3 + (nI 1)), .ref 2001, .ref 0], D, E)) rfl ?_
  refine gv_ix hq (hs _ _ rfl) rfl h 2038 rfl (fun h => ?_)
  refine gw_n hq hs 4 (S' := (2042, [some (.ref 2001), some (.ref 0), some (.ref 116), some (.int l3)], [.int (l3 + (nI 2)), .ref 2001, .int (X.2 ((l3 + (nI 1))).toNatClampNeg), .ref 0], D, E)) rfl ?_
  refine gv_ix hq (hs _ _ rfl) rfl h 2043 rfl (fun h => ?_)
  refine gw_n hq hs 4 (S' := (2047, [some (.ref 2001), some (.ref 0), some (.ref 116), some (.int l3)], [.int (l3 + (nI 3)), .ref 2001, .int (X.2 ((l3 + (nI 2))).toNatClampNeg), .int (X.2 ((l3 + (nI 1))).toNatClampNeg), .ref 0], D, E)) rfl ?_
  refine gv_ix hq (hs _ _ rfl) rfl h 2048 rfl (fun h => ?_)
  refine gw_n hq hs 7 (S' := (2056, [some (.ref 2001), some (.ref 0), some (.ref 116), some (.int l3)], [.int (l3 + (nI 4)), .ref 2001, .long ((((X.2 ((l3 + (nI 3))).toNatClampNeg)).toInt64) <<< (((nI 32)).toInt64 &&& 63)), .int (X.2 ((l3 + (nI 2))).toNatClampNeg), .int (X.2 ((l3 + (nI 1))).toNatClampNeg), .ref 0], D, E)) rfl ?_
  refine gv_ix hq (hs _ _ rfl) rfl h 2057 rfl (fun h => ?_)
  refine gw_n hq hs 4 (S' := (2063, [some (.ref 2001), some (.ref 0), some (.ref 116), some (.int l3)], [.long (((((X.2 ((l3 + (nI 3))).toNatClampNeg)).toInt64) <<< (((nI 32)).toInt64 &&& 63)) ||| ((((X.2 ((l3 + (nI 4))).toNatClampNeg)).toInt64) &&& (4294967295 : Int64))), .int (X.2 ((l3 + (nI 2))).toNatClampNeg), .int (X.2 ((l3 + (nI 1))).toNatClampNeg), .ref 0], D, E)) rfl ?_
  obtain ⟨r111, h1, h⟩ := Option.bind_eq_some_iff.mp h
  refine gv_d hq (hs _ _ rfl) rfl rfl rfl rfl (gv_dd (by omega) (t_X_write X (d - 1) (by omega) D _ _ _ _ _ h1)) (S' := (2066, [some (.ref 2001), some (.ref 0), some (.ref 116), some (.int l3)], [.int r111.1], D, r111.2)) rfl ?_
  refine gw_n hq hs 5 (S' := (2071, [some (.ref 2001), some (.ref 0), some (.ref 116), some (.int l3)], [.int (l3 + (nI 1)), .ref 2001, .ref 116, .int r111.1], D, r111.2)) rfl ?_
  refine gv_ix hq (hs _ _ rfl) rfl h 2072 rfl (fun h => ?_)
  refine gw_n hq hs 4 (S' := (2076, [some (.ref 2001), some (.ref 0), some (.ref 116), some (.int l3)], [.int (l3 + (nI 2)), .ref 2001, .int (X.2 ((l3 + (nI 1))).toNatClampNeg), .ref 116, .int r111.1], D, r111.2)) rfl ?_
  refine gv_ix hq (hs _ _ rfl) rfl h 2077 rfl (fun h => ?_)
  refine gw_n hq hs 4 (S' := (2081, [some (.ref 2001), some (.ref 0), some (.ref 116), some (.int l3)], [.int (l3 + (nI 3)), .ref 2001, .int (X.2 ((l3 + (nI 2))).toNatClampNeg), .int (X.2 ((l3 + (nI 1))).toNatClampNeg), .ref 116, .int r111.1], D, r111.2)) rfl ?_
  refine gv_ix hq (hs _ _ rfl) rfl h 2082 rfl (fun h => ?_)
  refine gw_n hq hs 7 (S' := (2090, [some (.ref 2001), some (.ref 0), some (.ref 116), some (.int l3)], [.int (l3 + (nI 4)), .ref 2001, .long ((((X.2 ((l3 + (nI 3))).toNatClampNeg)).toInt64) <<< (((nI 32)).toInt64 &&& 63)), .int (X.2 ((l3 + (nI 2))).toNatClampNeg), .int (X.2 ((l3 + (nI 1))).toNatClampNeg), .ref 116, .int r111.1], D, r111.2)) rfl ?_
  refine gv_ix hq (hs _ _ rfl) rfl h 2091 rfl (fun h => ?_)
  refine gw_n hq hs 4 (S' := (2097, [some (.ref 2001), some (.ref 0), some (.ref 116), some (.int l3)], [.long (((((X.2 ((l3 + (nI 3))).toNatClampNeg)).toInt64) <<< (((nI 32)).toInt64 &&& 63)) ||| ((((X.2 ((l3 + (nI 4))).toNatClampNeg)).toInt64) &&& (4294967295 : Int64))), .int (X.2 ((l3 + (nI 2))).toNatClampNeg), .int (X.2 ((l3 + (nI 1))).toNatClampNeg), .ref 116, .int r111.1], D, r111.2)) rfl ?_
  obtain ⟨r112, h1, h⟩ := Option.bind_eq_some_iff.mp h
  refine gv_d hq (hs _ _ rfl) rfl rfl rfl rfl (gv_dd (by omega) (t_M_write X (d - 1) (by omega) D _ _ _ _ _ h1)) (S' := (2100, [some (.ref 2001), some (.ref 0), some (.ref 116), some (.int l3)], [.int r112.1, .int r111.1], D, r112.2)) rfl ?_
  refine gv_b hq (hs _ _ rfl) h 2168 2103 rfl rfl rfl (fun h => ?_) (fun h => ?_)
  · exact gv_w (tb_law_2168 X F d hd k18 K18 _ _ _ _ h) (And.intro rfl (And.intro rfl (And.intro rfl (And.intro rfl trivial))))
  · refine gw_n hq hs 1 (S' := (2104, [some (.ref 2001), some (.ref 0), some (.ref 116), some (.int l3)], [.int (nI 0)], D, r112.2)) rfl ?_
    cases h
    exact ev_ret hq (hs _ _ rfl) rfl ⟨rfl, rfl, rfl⟩
set_option maxRecDepth 100000 in
set_option maxHeartbeats 4000000 in
theorem tb_law_2105 (X : ev_X) (F : Nat) (d : Nat) (hd : 105 ≤ d + 1) (k18 : Int32 → mx_D → mx_E → Option (Int32 × mx_D × mx_E)) (K18 : ∀ (l3 : Int32) (D : mx_D) (E : mx_E) (v : Int32 × mx_D × mx_E), k18 l3 D E = some v → ev X (d + 1) 337 (18, [some (.ref 2001), some (.ref 0), some (.ref 116), some (.int l3)], [], D, E) (qR (some (.int v.1)) v.2.1 v.2.2)) (l3 : Int32) (D : mx_D) (E : mx_E) (v : Int32 × mx_D × mx_E) (h : b_law_2105 F X k18 l3 D E = some v) : ev X (d + 1) 337 (2105, [some (.ref 2001), some (.ref 0), some (.ref 116), some (.int l3)], [], D, E) (qR (some (.int v.1)) v.2.1 v.2.2) := by
  have hq : kq_m 337 = some kq_q337 := rfl
  unfold b_law_2105 at h
  have hs := lc_s36
  refine gw_n hq hs 5 (S' := (2110, [some (.ref 2001), some (.ref 0), some (.ref 116), some (.int l3)], [.int (l3 + (nI 1)), .ref 2001, .ref 0], D, E)) rfl ?_
  refine gv_ix hq (hs _ _ rfl) rfl h 2111 rfl (fun h => ?_)
  refine gw_n hq hs 4 (S' := (2115, [some (.ref 2001), some (.ref 0), some (.ref 116), some (.int l3)], [.int (l3 + (nI 2)), .ref 2001, .int (X.2 ((l3 + (nI 1))).toNatClampNeg), .ref 0], D, E)) rfl ?_
  refine gv_ix hq (hs _ _ rfl) rfl h 2116 rfl (fun h => ?_)
  refine gw_n hq hs 4 (S' := (2120, [some (.ref 2001), some (.ref 0), some (.ref 116), some (.int l3)], [.int (l3 + (nI 3)), .ref 2001, .int (X.2 ((l3 + (nI 2))).toNatClampNeg), .int (X.2 ((l3 + (nI 1))).toNatClampNeg), .ref 0], D, E)) rfl ?_
  refine gv_ix hq (hs _ _ rfl) rfl h 2121 rfl (fun h => ?_)
  refine gw_n hq hs 4 (S' := (2125, [some (.ref 2001), some (.ref 0), some (.ref 116), some (.int l3)], [.int (l3 + (nI 4)), .ref 2001, .int (X.2 ((l3 + (nI 3))).toNatClampNeg), .int (X.2 ((l3 + (nI 2))).toNatClampNeg), .int (X.2 ((l3 + (nI 1))).toNatClampNeg), .ref 0], D, E)) rfl ?_
  refine gv_ix hq (hs _ _ rfl) rfl h 2126 rfl (fun h => ?_)
  refine gw_n hq hs 4 (S' := (2130, [some (.ref 2001), some (.ref 0), some (.ref 116), some (.int l3)], [.int (l3 + (nI 5)), .ref 2001, .int (X.2 ((l3 + (nI 4))).toNatClampNeg), .int (X.2 ((l3 + (nI 3))).toNatClampNeg), .int (X.2 ((l3 + (nI 2))).toNatClampNeg), .int (X.2 ((l3 + (nI 1))).toNatClampNeg), .ref 0], D, E)) rfl ?_
  refine gv_ix hq (hs _ _ rfl) rfl h 2131 rfl (fun h => ?_)
  obtain ⟨r113, h1, h⟩ := Option.bind_eq_some_iff.mp h
  refine gv_d hq (hs _ _ rfl) rfl rfl rfl rfl (gv_dd (by omega) (t_X_paste X (d - 1) (by omega) D _ _ _ _ _ _ _ h1)) (S' := (2134, [some (.ref 2001), some (.ref 0), some (.ref 116), some (.int l3)], [.int r113.1], D, r113.2)) rfl ?_
  refine gw_n hq hs 5 (S' := (2139, [some (.ref 2001), some (.ref 0), some (.ref 116), some (.int l3)], [.int (l3 + (nI 1)), .ref 2001, .ref 116, .int r113.1], D, r113.2)) rfl ?_
  refine gv_ix hq (hs _ _ rfl) rfl h 2140 rfl (fun h => ?_)
  refine gw_n hq hs 4 (S' := (2144, [some (.ref 2001), some (.ref 0), some (.ref 116), some (.int l3)], [.int (l3 + (nI 2)), .ref 2001, .int (X.2 ((l3 + (nI 1))).toNatClampNeg), .ref 116, .int r113.1], D, r113.2)) rfl ?_
  refine gv_ix hq (hs _ _ rfl) rfl h 2145 rfl (fun h => ?_)
  refine gw_n hq hs 4 (S' := (2149, [some (.ref 2001), some (.ref 0), some (.ref 116), some (.int l3)], [.int (l3 + (nI 3)), .ref 2001, .int (X.2 ((l3 + (nI 2))).toNatClampNeg), .int (X.2 ((l3 + (nI 1))).toNatClampNeg), .ref 116, .int r113.1], D, r113.2)) rfl ?_
  refine gv_ix hq (hs _ _ rfl) rfl h 2150 rfl (fun h => ?_)
  refine gw_n hq hs 4 (S' := (2154, [some (.ref 2001), some (.ref 0), some (.ref 116), some (.int l3)], [.int (l3 + (nI 4)), .ref 2001, .int (X.2 ((l3 + (nI 3))).toNatClampNeg), .int (X.2 ((l3 + (nI 2))).toNatClampNeg), .int (X.2 ((l3 + (nI 1))).toNatClampNeg), .ref 116, .int r113.1], D, r113.2)) rfl ?_
  refine gv_ix hq (hs _ _ rfl) rfl h 2155 rfl (fun h => ?_)
  refine gw_n hq hs 4 (S' := (2159, [some (.ref 2001), some (.ref 0), some (.ref 116), some (.int l3)], [.int (l3 + (nI 5)), .ref 2001, .int (X.2 ((l3 + (nI 4))).toNatClampNeg), .int (X.2 ((l3 + (nI 3))).toNatClampNeg), .int (X.2 ((l3 + (nI 2))).toNatClampNeg), .int (X.2 ((l3 + (nI 1))).toNatClampNeg), .ref 116, .int r113.1], D, r113.2)) rfl ?_
  refine gv_ix hq (hs _ _ rfl) rfl h 2160 rfl (fun h => ?_)
  obtain ⟨r114, h1, h⟩ := Option.bind_eq_some_iff.mp h
  refine gv_d hq (hs _ _ rfl) rfl rfl rfl rfl (gv_dd (by omega) (t_M_paste X F (d - 1) (by omega) D _ _ _ _ _ _ _ h1)) (S' := (2163, [some (.ref 2001), some (.ref 0), some (.ref 116), some (.int l3)], [.int r114.1, .int r113.1], D, r114.2)) rfl ?_
  refine gv_b hq (hs _ _ rfl) h 2168 2166 rfl rfl rfl (fun h => ?_) (fun h => ?_)
  · exact gv_w (tb_law_2168 X F d hd k18 K18 _ _ _ _ h) (And.intro rfl (And.intro rfl (And.intro rfl (And.intro rfl trivial))))
  · refine gw_n hq hs 1 (S' := (2167, [some (.ref 2001), some (.ref 0), some (.ref 116), some (.int l3)], [.int (nI 0)], D, r114.2)) rfl ?_
    cases h
    exact ev_ret hq (hs _ _ rfl) rfl ⟨rfl, rfl, rfl⟩
set_option maxRecDepth 100000 in
set_option maxHeartbeats 4000000 in
theorem tb_law_18 (X : ev_X) (F : Nat) (d : Nat) (hd : 105 ≤ d + 1) (k18 : Int32 → mx_D → mx_E → Option (Int32 × mx_D × mx_E)) (K18 : ∀ (l3 : Int32) (D : mx_D) (E : mx_E) (v : Int32 × mx_D × mx_E), k18 l3 D E = some v → ev X (d + 1) 337 (18, [some (.ref 2001), some (.ref 0), some (.ref 116), some (.int l3)], [], D, E) (qR (some (.int v.1)) v.2.1 v.2.2)) (l3 : Int32) (D : mx_D) (E : mx_E) (v : Int32 × mx_D × mx_E) (h : b_law_18 F X k18 l3 D E = some v) : ev X (d + 1) 337 (18, [some (.ref 2001), some (.ref 0), some (.ref 116), some (.int l3)], [], D, E) (qR (some (.int v.1)) v.2.1 v.2.2) := by
  have hq : kq_m 337 = some kq_q337 := rfl
  unfold b_law_18 at h
  have hs := lc_s0
  refine gw_n hq hs 5 (S' := (24, [some (.ref 2001), some (.ref 0), some (.ref 116), some (.int l3)], [.int ((nI X.1) - (nI 6)), .int l3], D, E)) rfl ?_
  refine gv_b hq (hs _ _ rfl) h 2174 27 rfl rfl rfl (fun h => ?_) (fun h => ?_)
  · refine gw_n hq lc_s38 1 (S' := (2175, [some (.ref 2001), some (.ref 0), some (.ref 116), some (.int l3)], [.int (nI 1)], D, E)) rfl ?_
    cases h
    exact ev_ret hq (lc_s38 _ _ rfl) rfl ⟨rfl, rfl, rfl⟩
  · refine gw_n hq hs 2 (S' := (29, [some (.ref 2001), some (.ref 0), some (.ref 116), some (.int l3)], [.int l3, .ref 2001], D, E)) rfl ?_
    refine gv_ix hq (hs _ _ rfl) rfl h 30 rfl (fun h => ?_)
    refine gw_n hq hs 2 (S' := (33, [some (.ref 2001), some (.ref 0), some (.ref 116), some (.int l3)], [.int ((X.2 (l3).toNatClampNeg) &&& (nI 63))], D, E)) rfl ?_
    refine gv_if h (fun c0 h => ?_) (fun c0 h => ?_)
    · refine ev_ins hq (hs _ _ rfl) (S' := (288, [some (.ref 2001), some (.ref 0), some (.ref 116), some (.int l3)], [], D, E)) (gv_sw (fun z => ((33, [some (.ref 2001), some (.ref 0), some (.ref 116), some (.int l3)], .int z :: [], D, E) : mx_S)) c0 rfl) ?_
      exact gv_w (tb_law_288 X F d hd k18 K18 _ _ _ _ h) (And.intro rfl (And.intro rfl (And.intro rfl (And.intro rfl trivial))))
    refine gv_if h (fun c1 h => ?_) (fun c1 h => ?_)
    · refine ev_ins hq (hs _ _ rfl) (S' := (351, [some (.ref 2001), some (.ref 0), some (.ref 116), some (.int l3)], [], D, E)) (gv_sw (fun z => ((33, [some (.ref 2001), some (.ref 0), some (.ref 116), some (.int l3)], .int z :: [], D, E) : mx_S)) c1 rfl) ?_
      exact gv_w (tb_law_351 X F d hd k18 K18 _ _ _ _ h) (And.intro rfl (And.intro rfl (And.intro rfl (And.intro rfl trivial))))
    refine gv_if h (fun c2 h => ?_) (fun c2 h => ?_)
    · refine ev_ins hq (hs _ _ rfl) (S' := (374, [some (.ref 2001), some (.ref 0), some (.ref 116), some (.int l3)], [], D, E)) (gv_sw (fun z => ((33, [some (.ref 2001), some (.ref 0), some (.ref 116), some (.int l3)], .int z :: [], D, E) : mx_S)) c2 rfl) ?_
      exact gv_w (tb_law_374 X F d hd k18 K18 _ _ _ _ h) (And.intro rfl (And.intro rfl (And.intro rfl (And.intro rfl trivial))))
    refine gv_if h (fun c3 h => ?_) (fun c3 h => ?_)
    · refine ev_ins hq (hs _ _ rfl) (S' := (387, [some (.ref 2001), some (.ref 0), some (.ref 116), some (.int l3)], [], D, E)) (gv_sw (fun z => ((33, [some (.ref 2001), some (.ref 0), some (.ref 116), some (.int l3)], .int z :: [], D, E) : mx_S)) c3 rfl) ?_
      exact gv_w (tb_law_387 X F d hd k18 K18 _ _ _ _ h) (And.intro rfl (And.intro rfl (And.intro rfl (And.intro rfl trivial))))
    refine gv_if h (fun c4 h => ?_) (fun c4 h => ?_)
    · refine ev_ins hq (hs _ _ rfl) (S' := (410, [some (.ref 2001), some (.ref 0), some (.ref 116), some (.int l3)], [], D, E)) (gv_sw (fun z => ((33, [some (.ref 2001), some (.ref 0), some (.ref 116), some (.int l3)], .int z :: [], D, E) : mx_S)) c4 rfl) ?_
      exact gv_w (tb_law_410 X F d hd k18 K18 _ _ _ _ h) (And.intro rfl (And.intro rfl (And.intro rfl (And.intro rfl trivial))))
    refine gv_if h (fun c5 h => ?_) (fun c5 h => ?_)
    · refine ev_ins hq (hs _ _ rfl) (S' := (443, [some (.ref 2001), some (.ref 0), some (.ref 116), some (.int l3)], [], D, E)) (gv_sw (fun z => ((33, [some (.ref 2001), some (.ref 0), some (.ref 116), some (.int l3)], .int z :: [], D, E) : mx_S)) c5 rfl) ?_
      exact gv_w (tb_law_443 X F d hd k18 K18 _ _ _ _ h) (And.intro rfl (And.intro rfl (And.intro rfl (And.intro rfl trivial))))
    refine gv_if h (fun c6 h => ?_) (fun c6 h => ?_)
    · refine ev_ins hq (hs _ _ rfl) (S' := (476, [some (.ref 2001), some (.ref 0), some (.ref 116), some (.int l3)], [], D, E)) (gv_sw (fun z => ((33, [some (.ref 2001), some (.ref 0), some (.ref 116), some (.int l3)], .int z :: [], D, E) : mx_S)) c6 rfl) ?_
      exact gv_w (tb_law_476 X F d hd k18 K18 _ _ _ _ h) (And.intro rfl (And.intro rfl (And.intro rfl (And.intro rfl trivial))))
    refine gv_if h (fun c7 h => ?_) (fun c7 h => ?_)
    · refine ev_ins hq (hs _ _ rfl) (S' := (509, [some (.ref 2001), some (.ref 0), some (.ref 116), some (.int l3)], [], D, E)) (gv_sw (fun z => ((33, [some (.ref 2001), some (.ref 0), some (.ref 116), some (.int l3)], .int z :: [], D, E) : mx_S)) c7 rfl) ?_
      exact gv_w (tb_law_509 X F d hd k18 K18 _ _ _ _ h) (And.intro rfl (And.intro rfl (And.intro rfl (And.intro rfl trivial))))
    refine gv_if h (fun c8 h => ?_) (fun c8 h => ?_)
    · refine ev_ins hq (hs _ _ rfl) (S' := (542, [some (.ref 2001), some (.ref 0), some (.ref 116), some (.int l3)], [], D, E)) (gv_sw (fun z => ((33, [some (.ref 2001), some (.ref 0), some (.ref 116), some (.int l3)], .int z :: [], D, E) : mx_S)) c8 rfl) ?_
      exact gv_w (tb_law_542 X F d hd k18 K18 _ _ _ _ h) (And.intro rfl (And.intro rfl (And.intro rfl (And.intro rfl trivial))))
    refine gv_if h (fun c9 h => ?_) (fun c9 h => ?_)
    · refine ev_ins hq (hs _ _ rfl) (S' := (575, [some (.ref 2001), some (.ref 0), some (.ref 116), some (.int l3)], [], D, E)) (gv_sw (fun z => ((33, [some (.ref 2001), some (.ref 0), some (.ref 116), some (.int l3)], .int z :: [], D, E) : mx_S)) c9 rfl) ?_
      exact gv_w (tb_law_575 X F d hd k18 K18 _ _ _ _ h) (And.intro rfl (And.intro rfl (And.intro rfl (And.intro rfl trivial))))
    refine gv_if h (fun c10 h => ?_) (fun c10 h => ?_)
    · refine ev_ins hq (hs _ _ rfl) (S' := (608, [some (.ref 2001), some (.ref 0), some (.ref 116), some (.int l3)], [], D, E)) (gv_sw (fun z => ((33, [some (.ref 2001), some (.ref 0), some (.ref 116), some (.int l3)], .int z :: [], D, E) : mx_S)) c10 rfl) ?_
      exact gv_w (tb_law_608 X F d hd k18 K18 _ _ _ _ h) (And.intro rfl (And.intro rfl (And.intro rfl (And.intro rfl trivial))))
    refine gv_if h (fun c11 h => ?_) (fun c11 h => ?_)
    · refine ev_ins hq (hs _ _ rfl) (S' := (641, [some (.ref 2001), some (.ref 0), some (.ref 116), some (.int l3)], [], D, E)) (gv_sw (fun z => ((33, [some (.ref 2001), some (.ref 0), some (.ref 116), some (.int l3)], .int z :: [], D, E) : mx_S)) c11 rfl) ?_
      exact gv_w (tb_law_641 X F d hd k18 K18 _ _ _ _ h) (And.intro rfl (And.intro rfl (And.intro rfl (And.intro rfl trivial))))
    refine gv_if h (fun c12 h => ?_) (fun c12 h => ?_)
    · refine ev_ins hq (hs _ _ rfl) (S' := (664, [some (.ref 2001), some (.ref 0), some (.ref 116), some (.int l3)], [], D, E)) (gv_sw (fun z => ((33, [some (.ref 2001), some (.ref 0), some (.ref 116), some (.int l3)], .int z :: [], D, E) : mx_S)) c12 rfl) ?_
      exact gv_w (tb_law_664 X F d hd k18 K18 _ _ _ _ h) (And.intro rfl (And.intro rfl (And.intro rfl (And.intro rfl trivial))))
    refine gv_if h (fun c13 h => ?_) (fun c13 h => ?_)
    · refine ev_ins hq (hs _ _ rfl) (S' := (687, [some (.ref 2001), some (.ref 0), some (.ref 116), some (.int l3)], [], D, E)) (gv_sw (fun z => ((33, [some (.ref 2001), some (.ref 0), some (.ref 116), some (.int l3)], .int z :: [], D, E) : mx_S)) c13 rfl) ?_
      exact gv_w (tb_law_687 X F d hd k18 K18 _ _ _ _ h) (And.intro rfl (And.intro rfl (And.intro rfl (And.intro rfl trivial))))
    refine gv_if h (fun c14 h => ?_) (fun c14 h => ?_)
    · refine ev_ins hq (hs _ _ rfl) (S' := (720, [some (.ref 2001), some (.ref 0), some (.ref 116), some (.int l3)], [], D, E)) (gv_sw (fun z => ((33, [some (.ref 2001), some (.ref 0), some (.ref 116), some (.int l3)], .int z :: [], D, E) : mx_S)) c14 rfl) ?_
      exact gv_w (tb_law_720 X F d hd k18 K18 _ _ _ _ h) (And.intro rfl (And.intro rfl (And.intro rfl (And.intro rfl trivial))))
    refine gv_if h (fun c15 h => ?_) (fun c15 h => ?_)
    · refine ev_ins hq (hs _ _ rfl) (S' := (753, [some (.ref 2001), some (.ref 0), some (.ref 116), some (.int l3)], [], D, E)) (gv_sw (fun z => ((33, [some (.ref 2001), some (.ref 0), some (.ref 116), some (.int l3)], .int z :: [], D, E) : mx_S)) c15 rfl) ?_
      exact gv_w (tb_law_753 X F d hd k18 K18 _ _ _ _ h) (And.intro rfl (And.intro rfl (And.intro rfl (And.intro rfl trivial))))
    refine gv_if h (fun c16 h => ?_) (fun c16 h => ?_)
    · refine ev_ins hq (hs _ _ rfl) (S' := (776, [some (.ref 2001), some (.ref 0), some (.ref 116), some (.int l3)], [], D, E)) (gv_sw (fun z => ((33, [some (.ref 2001), some (.ref 0), some (.ref 116), some (.int l3)], .int z :: [], D, E) : mx_S)) c16 rfl) ?_
      exact gv_w (tb_law_776 X F d hd k18 K18 _ _ _ _ h) (And.intro rfl (And.intro rfl (And.intro rfl (And.intro rfl trivial))))
    refine gv_if h (fun c17 h => ?_) (fun c17 h => ?_)
    · refine ev_ins hq (hs _ _ rfl) (S' := (809, [some (.ref 2001), some (.ref 0), some (.ref 116), some (.int l3)], [], D, E)) (gv_sw (fun z => ((33, [some (.ref 2001), some (.ref 0), some (.ref 116), some (.int l3)], .int z :: [], D, E) : mx_S)) c17 rfl) ?_
      exact gv_w (tb_law_809 X F d hd k18 K18 _ _ _ _ h) (And.intro rfl (And.intro rfl (And.intro rfl (And.intro rfl trivial))))
    refine gv_if h (fun c18 h => ?_) (fun c18 h => ?_)
    · refine ev_ins hq (hs _ _ rfl) (S' := (832, [some (.ref 2001), some (.ref 0), some (.ref 116), some (.int l3)], [], D, E)) (gv_sw (fun z => ((33, [some (.ref 2001), some (.ref 0), some (.ref 116), some (.int l3)], .int z :: [], D, E) : mx_S)) c18 rfl) ?_
      exact gv_w (tb_law_832 X F d hd k18 K18 _ _ _ _ h) (And.intro rfl (And.intro rfl (And.intro rfl (And.intro rfl trivial))))
    refine gv_if h (fun c19 h => ?_) (fun c19 h => ?_)
    · refine ev_ins hq (hs _ _ rfl) (S' := (855, [some (.ref 2001), some (.ref 0), some (.ref 116), some (.int l3)], [], D, E)) (gv_sw (fun z => ((33, [some (.ref 2001), some (.ref 0), some (.ref 116), some (.int l3)], .int z :: [], D, E) : mx_S)) c19 rfl) ?_
      exact gv_w (tb_law_855 X F d hd k18 K18 _ _ _ _ h) (And.intro rfl (And.intro rfl (And.intro rfl (And.intro rfl trivial))))
    refine gv_if h (fun c20 h => ?_) (fun c20 h => ?_)
    · refine ev_ins hq (hs _ _ rfl) (S' := (888, [some (.ref 2001), some (.ref 0), some (.ref 116), some (.int l3)], [], D, E)) (gv_sw (fun z => ((33, [some (.ref 2001), some (.ref 0), some (.ref 116), some (.int l3)], .int z :: [], D, E) : mx_S)) c20 rfl) ?_
      exact gv_w (tb_law_888 X F d hd k18 K18 _ _ _ _ h) (And.intro rfl (And.intro rfl (And.intro rfl (And.intro rfl trivial))))
    refine gv_if h (fun c21 h => ?_) (fun c21 h => ?_)
    · refine ev_ins hq (hs _ _ rfl) (S' := (901, [some (.ref 2001), some (.ref 0), some (.ref 116), some (.int l3)], [], D, E)) (gv_sw (fun z => ((33, [some (.ref 2001), some (.ref 0), some (.ref 116), some (.int l3)], .int z :: [], D, E) : mx_S)) c21 rfl) ?_
      exact gv_w (tb_law_901 X F d hd k18 K18 _ _ _ _ h) (And.intro rfl (And.intro rfl (And.intro rfl (And.intro rfl trivial))))
    refine gv_if h (fun c22 h => ?_) (fun c22 h => ?_)
    · refine ev_ins hq (hs _ _ rfl) (S' := (924, [some (.ref 2001), some (.ref 0), some (.ref 116), some (.int l3)], [], D, E)) (gv_sw (fun z => ((33, [some (.ref 2001), some (.ref 0), some (.ref 116), some (.int l3)], .int z :: [], D, E) : mx_S)) c22 rfl) ?_
      exact gv_w (tb_law_924 X F d hd k18 K18 _ _ _ _ h) (And.intro rfl (And.intro rfl (And.intro rfl (And.intro rfl trivial))))
    refine gv_if h (fun c23 h => ?_) (fun c23 h => ?_)
    · refine ev_ins hq (hs _ _ rfl) (S' := (947, [some (.ref 2001), some (.ref 0), some (.ref 116), some (.int l3)], [], D, E)) (gv_sw (fun z => ((33, [some (.ref 2001), some (.ref 0), some (.ref 116), some (.int l3)], .int z :: [], D, E) : mx_S)) c23 rfl) ?_
      exact gv_w (tb_law_947 X F d hd k18 K18 _ _ _ _ h) (And.intro rfl (And.intro rfl (And.intro rfl (And.intro rfl trivial))))
    refine gv_if h (fun c24 h => ?_) (fun c24 h => ?_)
    · refine ev_ins hq (hs _ _ rfl) (S' := (980, [some (.ref 2001), some (.ref 0), some (.ref 116), some (.int l3)], [], D, E)) (gv_sw (fun z => ((33, [some (.ref 2001), some (.ref 0), some (.ref 116), some (.int l3)], .int z :: [], D, E) : mx_S)) c24 rfl) ?_
      exact gv_w (tb_law_980 X F d hd k18 K18 _ _ _ _ h) (And.intro rfl (And.intro rfl (And.intro rfl (And.intro rfl trivial))))
    refine gv_if h (fun c25 h => ?_) (fun c25 h => ?_)
    · refine ev_ins hq (hs _ _ rfl) (S' := (1003, [some (.ref 2001), some (.ref 0), some (.ref 116), some (.int l3)], [], D, E)) (gv_sw (fun z => ((33, [some (.ref 2001), some (.ref 0), some (.ref 116), some (.int l3)], .int z :: [], D, E) : mx_S)) c25 rfl) ?_
      exact gv_w (tb_law_1003 X F d hd k18 K18 _ _ _ _ h) (And.intro rfl (And.intro rfl (And.intro rfl (And.intro rfl trivial))))
    refine gv_if h (fun c26 h => ?_) (fun c26 h => ?_)
    · refine ev_ins hq (hs _ _ rfl) (S' := (1036, [some (.ref 2001), some (.ref 0), some (.ref 116), some (.int l3)], [], D, E)) (gv_sw (fun z => ((33, [some (.ref 2001), some (.ref 0), some (.ref 116), some (.int l3)], .int z :: [], D, E) : mx_S)) c26 rfl) ?_
      exact gv_w (tb_law_1036 X F d hd k18 K18 _ _ _ _ h) (And.intro rfl (And.intro rfl (And.intro rfl (And.intro rfl trivial))))
    refine gv_if h (fun c27 h => ?_) (fun c27 h => ?_)
    · refine ev_ins hq (hs _ _ rfl) (S' := (1059, [some (.ref 2001), some (.ref 0), some (.ref 116), some (.int l3)], [], D, E)) (gv_sw (fun z => ((33, [some (.ref 2001), some (.ref 0), some (.ref 116), some (.int l3)], .int z :: [], D, E) : mx_S)) c27 rfl) ?_
      exact gv_w (tb_law_1059 X F d hd k18 K18 _ _ _ _ h) (And.intro rfl (And.intro rfl (And.intro rfl (And.intro rfl trivial))))
    refine gv_if h (fun c28 h => ?_) (fun c28 h => ?_)
    · refine ev_ins hq (hs _ _ rfl) (S' := (1082, [some (.ref 2001), some (.ref 0), some (.ref 116), some (.int l3)], [], D, E)) (gv_sw (fun z => ((33, [some (.ref 2001), some (.ref 0), some (.ref 116), some (.int l3)], .int z :: [], D, E) : mx_S)) c28 rfl) ?_
      exact gv_w (tb_law_1082 X F d hd k18 K18 _ _ _ _ h) (And.intro rfl (And.intro rfl (And.intro rfl (And.intro rfl trivial))))
    refine gv_if h (fun c29 h => ?_) (fun c29 h => ?_)
    · refine ev_ins hq (hs _ _ rfl) (S' := (1115, [some (.ref 2001), some (.ref 0), some (.ref 116), some (.int l3)], [], D, E)) (gv_sw (fun z => ((33, [some (.ref 2001), some (.ref 0), some (.ref 116), some (.int l3)], .int z :: [], D, E) : mx_S)) c29 rfl) ?_
      exact gv_w (tb_law_1115 X F d hd k18 K18 _ _ _ _ h) (And.intro rfl (And.intro rfl (And.intro rfl (And.intro rfl trivial))))
    refine gv_if h (fun c30 h => ?_) (fun c30 h => ?_)
    · refine ev_ins hq (hs _ _ rfl) (S' := (1148, [some (.ref 2001), some (.ref 0), some (.ref 116), some (.int l3)], [], D, E)) (gv_sw (fun z => ((33, [some (.ref 2001), some (.ref 0), some (.ref 116), some (.int l3)], .int z :: [], D, E) : mx_S)) c30 rfl) ?_
      exact gv_w (tb_law_1148 X F d hd k18 K18 _ _ _ _ h) (And.intro rfl (And.intro rfl (And.intro rfl (And.intro rfl trivial))))
    refine gv_if h (fun c31 h => ?_) (fun c31 h => ?_)
    · refine ev_ins hq (hs _ _ rfl) (S' := (1161, [some (.ref 2001), some (.ref 0), some (.ref 116), some (.int l3)], [], D, E)) (gv_sw (fun z => ((33, [some (.ref 2001), some (.ref 0), some (.ref 116), some (.int l3)], .int z :: [], D, E) : mx_S)) c31 rfl) ?_
      exact gv_w (tb_law_1161 X F d hd k18 K18 _ _ _ _ h) (And.intro rfl (And.intro rfl (And.intro rfl (And.intro rfl trivial))))
    refine gv_if h (fun c32 h => ?_) (fun c32 h => ?_)
    · refine ev_ins hq (hs _ _ rfl) (S' := (1184, [some (.ref 2001), some (.ref 0), some (.ref 116), some (.int l3)], [], D, E)) (gv_sw (fun z => ((33, [some (.ref 2001), some (.ref 0), some (.ref 116), some (.int l3)], .int z :: [], D, E) : mx_S)) c32 rfl) ?_
      exact gv_w (tb_law_1184 X F d hd k18 K18 _ _ _ _ h) (And.intro rfl (And.intro rfl (And.intro rfl (And.intro rfl trivial))))
    refine gv_if h (fun c33 h => ?_) (fun c33 h => ?_)
    · refine ev_ins hq (hs _ _ rfl) (S' := (1217, [some (.ref 2001), some (.ref 0), some (.ref 116), some (.int l3)], [], D, E)) (gv_sw (fun z => ((33, [some (.ref 2001), some (.ref 0), some (.ref 116), some (.int l3)], .int z :: [], D, E) : mx_S)) c33 rfl) ?_
      exact gv_w (tb_law_1217 X F d hd k18 K18 _ _ _ _ h) (And.intro rfl (And.intro rfl (And.intro rfl (And.intro rfl trivial))))
    refine gv_if h (fun c34 h => ?_) (fun c34 h => ?_)
    · refine ev_ins hq (hs _ _ rfl) (S' := (1240, [some (.ref 2001), some (.ref 0), some (.ref 116), some (.int l3)], [], D, E)) (gv_sw (fun z => ((33, [some (.ref 2001), some (.ref 0), some (.ref 116), some (.int l3)], .int z :: [], D, E) : mx_S)) c34 rfl) ?_
      exact gv_w (tb_law_1240 X F d hd k18 K18 _ _ _ _ h) (And.intro rfl (And.intro rfl (And.intro rfl (And.intro rfl trivial))))
    refine gv_if h (fun c35 h => ?_) (fun c35 h => ?_)
    · refine ev_ins hq (hs _ _ rfl) (S' := (1263, [some (.ref 2001), some (.ref 0), some (.ref 116), some (.int l3)], [], D, E)) (gv_sw (fun z => ((33, [some (.ref 2001), some (.ref 0), some (.ref 116), some (.int l3)], .int z :: [], D, E) : mx_S)) c35 rfl) ?_
      exact gv_w (tb_law_1263 X F d hd k18 K18 _ _ _ _ h) (And.intro rfl (And.intro rfl (And.intro rfl (And.intro rfl trivial))))
    refine gv_if h (fun c36 h => ?_) (fun c36 h => ?_)
    · refine ev_ins hq (hs _ _ rfl) (S' := (1296, [some (.ref 2001), some (.ref 0), some (.ref 116), some (.int l3)], [], D, E)) (gv_sw (fun z => ((33, [some (.ref 2001), some (.ref 0), some (.ref 116), some (.int l3)], .int z :: [], D, E) : mx_S)) c36 rfl) ?_
      exact gv_w (tb_law_1296 X F d hd k18 K18 _ _ _ _ h) (And.intro rfl (And.intro rfl (And.intro rfl (And.intro rfl trivial))))
    refine gv_if h (fun c37 h => ?_) (fun c37 h => ?_)
    · refine ev_ins hq (hs _ _ rfl) (S' := (1329, [some (.ref 2001), some (.ref 0), some (.ref 116), some (.int l3)], [], D, E)) (gv_sw (fun z => ((33, [some (.ref 2001), some (.ref 0), some (.ref 116), some (.int l3)], .int z :: [], D, E) : mx_S)) c37 rfl) ?_
      exact gv_w (tb_law_1329 X F d hd k18 K18 _ _ _ _ h) (And.intro rfl (And.intro rfl (And.intro rfl (And.intro rfl trivial))))
    refine gv_if h (fun c38 h => ?_) (fun c38 h => ?_)
    · refine ev_ins hq (hs _ _ rfl) (S' := (1372, [some (.ref 2001), some (.ref 0), some (.ref 116), some (.int l3)], [], D, E)) (gv_sw (fun z => ((33, [some (.ref 2001), some (.ref 0), some (.ref 116), some (.int l3)], .int z :: [], D, E) : mx_S)) c38 rfl) ?_
      exact gv_w (tb_law_1372 X F d hd k18 K18 _ _ _ _ h) (And.intro rfl (And.intro rfl (And.intro rfl (And.intro rfl trivial))))
    refine gv_if h (fun c39 h => ?_) (fun c39 h => ?_)
    · refine ev_ins hq (hs _ _ rfl) (S' := (1405, [some (.ref 2001), some (.ref 0), some (.ref 116), some (.int l3)], [], D, E)) (gv_sw (fun z => ((33, [some (.ref 2001), some (.ref 0), some (.ref 116), some (.int l3)], .int z :: [], D, E) : mx_S)) c39 rfl) ?_
      exact gv_w (tb_law_1405 X F d hd k18 K18 _ _ _ _ h) (And.intro rfl (And.intro rfl (And.intro rfl (And.intro rfl trivial))))
    refine gv_if h (fun c40 h => ?_) (fun c40 h => ?_)
    · refine ev_ins hq (hs _ _ rfl) (S' := (1448, [some (.ref 2001), some (.ref 0), some (.ref 116), some (.int l3)], [], D, E)) (gv_sw (fun z => ((33, [some (.ref 2001), some (.ref 0), some (.ref 116), some (.int l3)], .int z :: [], D, E) : mx_S)) c40 rfl) ?_
      exact gv_w (tb_law_1448 X F d hd k18 K18 _ _ _ _ h) (And.intro rfl (And.intro rfl (And.intro rfl (And.intro rfl trivial))))
    refine gv_if h (fun c41 h => ?_) (fun c41 h => ?_)
    · refine ev_ins hq (hs _ _ rfl) (S' := (1481, [some (.ref 2001), some (.ref 0), some (.ref 116), some (.int l3)], [], D, E)) (gv_sw (fun z => ((33, [some (.ref 2001), some (.ref 0), some (.ref 116), some (.int l3)], .int z :: [], D, E) : mx_S)) c41 rfl) ?_
      exact gv_w (tb_law_1481 X F d hd k18 K18 _ _ _ _ h) (And.intro rfl (And.intro rfl (And.intro rfl (And.intro rfl trivial))))
    refine gv_if h (fun c42 h => ?_) (fun c42 h => ?_)
    · refine ev_ins hq (hs _ _ rfl) (S' := (1504, [some (.ref 2001), some (.ref 0), some (.ref 116), some (.int l3)], [], D, E)) (gv_sw (fun z => ((33, [some (.ref 2001), some (.ref 0), some (.ref 116), some (.int l3)], .int z :: [], D, E) : mx_S)) c42 rfl) ?_
      exact gv_w (tb_law_1504 X F d hd k18 K18 _ _ _ _ h) (And.intro rfl (And.intro rfl (And.intro rfl (And.intro rfl trivial))))
    refine gv_if h (fun c43 h => ?_) (fun c43 h => ?_)
    · refine ev_ins hq (hs _ _ rfl) (S' := (1537, [some (.ref 2001), some (.ref 0), some (.ref 116), some (.int l3)], [], D, E)) (gv_sw (fun z => ((33, [some (.ref 2001), some (.ref 0), some (.ref 116), some (.int l3)], .int z :: [], D, E) : mx_S)) c43 rfl) ?_
      exact gv_w (tb_law_1537 X F d hd k18 K18 _ _ _ _ h) (And.intro rfl (And.intro rfl (And.intro rfl (And.intro rfl trivial))))
    refine gv_if h (fun c44 h => ?_) (fun c44 h => ?_)
    · refine ev_ins hq (hs _ _ rfl) (S' := (1570, [some (.ref 2001), some (.ref 0), some (.ref 116), some (.int l3)], [], D, E)) (gv_sw (fun z => ((33, [some (.ref 2001), some (.ref 0), some (.ref 116), some (.int l3)], .int z :: [], D, E) : mx_S)) c44 rfl) ?_
      exact gv_w (tb_law_1570 X F d hd k18 K18 _ _ _ _ h) (And.intro rfl (And.intro rfl (And.intro rfl (And.intro rfl trivial))))
    refine gv_if h (fun c45 h => ?_) (fun c45 h => ?_)
    · refine ev_ins hq (hs _ _ rfl) (S' := (1613, [some (.ref 2001), some (.ref 0), some (.ref 116), some (.int l3)], [], D, E)) (gv_sw (fun z => ((33, [some (.ref 2001), some (.ref 0), some (.ref 116), some (.int l3)], .int z :: [], D, E) : mx_S)) c45 rfl) ?_
      exact gv_w (tb_law_1613 X F d hd k18 K18 _ _ _ _ h) (And.intro rfl (And.intro rfl (And.intro rfl (And.intro rfl trivial))))
    refine gv_if h (fun c46 h => ?_) (fun c46 h => ?_)
    · refine ev_ins hq (hs _ _ rfl) (S' := (1646, [some (.ref 2001), some (.ref 0), some (.ref 116), some (.int l3)], [], D, E)) (gv_sw (fun z => ((33, [some (.ref 2001), some (.ref 0), some (.ref 116), some (.int l3)], .int z :: [], D, E) : mx_S)) c46 rfl) ?_
      exact gv_w (tb_law_1646 X F d hd k18 K18 _ _ _ _ h) (And.intro rfl (And.intro rfl (And.intro rfl (And.intro rfl trivial))))
    refine gv_if h (fun c47 h => ?_) (fun c47 h => ?_)
    · refine ev_ins hq (hs _ _ rfl) (S' := (1669, [some (.ref 2001), some (.ref 0), some (.ref 116), some (.int l3)], [], D, E)) (gv_sw (fun z => ((33, [some (.ref 2001), some (.ref 0), some (.ref 116), some (.int l3)], .int z :: [], D, E) : mx_S)) c47 rfl) ?_
      exact gv_w (tb_law_1669 X F d hd k18 K18 _ _ _ _ h) (And.intro rfl (And.intro rfl (And.intro rfl (And.intro rfl trivial))))
    refine gv_if h (fun c48 h => ?_) (fun c48 h => ?_)
    · refine ev_ins hq (hs _ _ rfl) (S' := (1702, [some (.ref 2001), some (.ref 0), some (.ref 116), some (.int l3)], [], D, E)) (gv_sw (fun z => ((33, [some (.ref 2001), some (.ref 0), some (.ref 116), some (.int l3)], .int z :: [], D, E) : mx_S)) c48 rfl) ?_
      exact gv_w (tb_law_1702 X F d hd k18 K18 _ _ _ _ h) (And.intro rfl (And.intro rfl (And.intro rfl (And.intro rfl trivial))))
    refine gv_if h (fun c49 h => ?_) (fun c49 h => ?_)
    · refine ev_ins hq (hs _ _ rfl) (S' := (1735, [some (.ref 2001), some (.ref 0), some (.ref 116), some (.int l3)], [], D, E)) (gv_sw (fun z => ((33, [some (.ref 2001), some (.ref 0), some (.ref 116), some (.int l3)], .int z :: [], D, E) : mx_S)) c49 rfl) ?_
      exact gv_w (tb_law_1735 X F d hd k18 K18 _ _ _ _ h) (And.intro rfl (And.intro rfl (And.intro rfl (And.intro rfl trivial))))
    refine gv_if h (fun c50 h => ?_) (fun c50 h => ?_)
    · refine ev_ins hq (hs _ _ rfl) (S' := (1778, [some (.ref 2001), some (.ref 0), some (.ref 116), some (.int l3)], [], D, E)) (gv_sw (fun z => ((33, [some (.ref 2001), some (.ref 0), some (.ref 116), some (.int l3)], .int z :: [], D, E) : mx_S)) c50 rfl) ?_
      exact gv_w (tb_law_1778 X F d hd k18 K18 _ _ _ _ h) (And.intro rfl (And.intro rfl (And.intro rfl (And.intro rfl trivial))))
    refine gv_if h (fun c51 h => ?_) (fun c51 h => ?_)
    · refine ev_ins hq (hs _ _ rfl) (S' := (1811, [some (.ref 2001), some (.ref 0), some (.ref 116), some (.int l3)], [], D, E)) (gv_sw (fun z => ((33, [some (.ref 2001), some (.ref 0), some (.ref 116), some (.int l3)], .int z :: [], D, E) : mx_S)) c51 rfl) ?_
      exact gv_w (tb_law_1811 X F d hd k18 K18 _ _ _ _ h) (And.intro rfl (And.intro rfl (And.intro rfl (And.intro rfl trivial))))
    refine gv_if h (fun c52 h => ?_) (fun c52 h => ?_)
    · refine ev_ins hq (hs _ _ rfl) (S' := (1834, [some (.ref 2001), some (.ref 0), some (.ref 116), some (.int l3)], [], D, E)) (gv_sw (fun z => ((33, [some (.ref 2001), some (.ref 0), some (.ref 116), some (.int l3)], .int z :: [], D, E) : mx_S)) c52 rfl) ?_
      exact gv_w (tb_law_1834 X F d hd k18 K18 _ _ _ _ h) (And.intro rfl (And.intro rfl (And.intro rfl (And.intro rfl trivial))))
    refine gv_if h (fun c53 h => ?_) (fun c53 h => ?_)
    · refine ev_ins hq (hs _ _ rfl) (S' := (1877, [some (.ref 2001), some (.ref 0), some (.ref 116), some (.int l3)], [], D, E)) (gv_sw (fun z => ((33, [some (.ref 2001), some (.ref 0), some (.ref 116), some (.int l3)], .int z :: [], D, E) : mx_S)) c53 rfl) ?_
      exact gv_w (tb_law_1877 X F d hd k18 K18 _ _ _ _ h) (And.intro rfl (And.intro rfl (And.intro rfl (And.intro rfl trivial))))
    refine gv_if h (fun c54 h => ?_) (fun c54 h => ?_)
    · refine ev_ins hq (hs _ _ rfl) (S' := (1920, [some (.ref 2001), some (.ref 0), some (.ref 116), some (.int l3)], [], D, E)) (gv_sw (fun z => ((33, [some (.ref 2001), some (.ref 0), some (.ref 116), some (.int l3)], .int z :: [], D, E) : mx_S)) c54 rfl) ?_
      exact gv_w (tb_law_1920 X F d hd k18 K18 _ _ _ _ h) (And.intro rfl (And.intro rfl (And.intro rfl (And.intro rfl trivial))))
    refine gv_if h (fun c55 h => ?_) (fun c55 h => ?_)
    · refine ev_ins hq (hs _ _ rfl) (S' := (1943, [some (.ref 2001), some (.ref 0), some (.ref 116), some (.int l3)], [], D, E)) (gv_sw (fun z => ((33, [some (.ref 2001), some (.ref 0), some (.ref 116), some (.int l3)], .int z :: [], D, E) : mx_S)) c55 rfl) ?_
      exact gv_w (tb_law_1943 X F d hd k18 K18 _ _ _ _ h) (And.intro rfl (And.intro rfl (And.intro rfl (And.intro rfl trivial))))
    refine gv_if h (fun c56 h => ?_) (fun c56 h => ?_)
    · refine ev_ins hq (hs _ _ rfl) (S' := (1966, [some (.ref 2001), some (.ref 0), some (.ref 116), some (.int l3)], [], D, E)) (gv_sw (fun z => ((33, [some (.ref 2001), some (.ref 0), some (.ref 116), some (.int l3)], .int z :: [], D, E) : mx_S)) c56 rfl) ?_
      exact gv_w (tb_law_1966 X F d hd k18 K18 _ _ _ _ h) (And.intro rfl (And.intro rfl (And.intro rfl (And.intro rfl trivial))))
    refine gv_if h (fun c57 h => ?_) (fun c57 h => ?_)
    · refine ev_ins hq (hs _ _ rfl) (S' := (1989, [some (.ref 2001), some (.ref 0), some (.ref 116), some (.int l3)], [], D, E)) (gv_sw (fun z => ((33, [some (.ref 2001), some (.ref 0), some (.ref 116), some (.int l3)], .int z :: [], D, E) : mx_S)) c57 rfl) ?_
      exact gv_w (tb_law_1989 X F d hd k18 K18 _ _ _ _ h) (And.intro rfl (And.intro rfl (And.intro rfl (And.intro rfl trivial))))
    refine gv_if h (fun c58 h => ?_) (fun c58 h => ?_)
    · refine ev_ins hq (hs _ _ rfl) (S' := (2032, [some (.ref 2001), some (.ref 0), some (.ref 116), some (.int l3)], [], D, E)) (gv_sw (fun z => ((33, [some (.ref 2001), some (.ref 0), some (.ref 116), some (.int l3)], .int z :: [], D, E) : mx_S)) c58 rfl) ?_
      exact gv_w (tb_law_2032 X F d hd k18 K18 _ _ _ _ h) (And.intro rfl (And.intro rfl (And.intro rfl (And.intro rfl trivial))))
    refine gv_if h (fun c59 h => ?_) (fun c59 h => ?_)
    · refine ev_ins hq (hs _ _ rfl) (S' := (2105, [some (.ref 2001), some (.ref 0), some (.ref 116), some (.int l3)], [], D, E)) (gv_sw (fun z => ((33, [some (.ref 2001), some (.ref 0), some (.ref 116), some (.int l3)], .int z :: [], D, E) : mx_S)) c59 rfl) ?_
      exact gv_w (tb_law_2105 X F d hd k18 K18 _ _ _ _ h) (And.intro rfl (And.intro rfl (And.intro rfl (And.intro rfl trivial))))
    refine ev_ins hq (hs _ _ rfl) (S' := (2168, [some (.ref 2001), some (.ref 0), some (.ref 116), some (.int l3)], [], D, E)) (gv_swd (x := ((X.2 (l3).toNatClampNeg) &&& (nI 63))) (n := 60) (fun z => ((33, [some (.ref 2001), some (.ref 0), some (.ref 116), some (.int l3)], .int z :: [], D, E) : mx_S)) ⟨⟨⟨⟨⟨⟨⟨⟨⟨⟨⟨⟨⟨⟨⟨⟨⟨⟨⟨⟨⟨⟨⟨⟨⟨⟨⟨⟨⟨⟨⟨⟨⟨⟨⟨⟨⟨⟨⟨⟨⟨⟨⟨⟨⟨⟨⟨⟨⟨⟨⟨⟨⟨⟨⟨⟨⟨⟨⟨⟨trivial, c0⟩, c1⟩, c2⟩, c3⟩, c4⟩, c5⟩, c6⟩, c7⟩, c8⟩, c9⟩, c10⟩, c11⟩, c12⟩, c13⟩, c14⟩, c15⟩, c16⟩, c17⟩, c18⟩, c19⟩, c20⟩, c21⟩, c22⟩, c23⟩, c24⟩, c25⟩, c26⟩, c27⟩, c28⟩, c29⟩, c30⟩, c31⟩, c32⟩, c33⟩, c34⟩, c35⟩, c36⟩, c37⟩, c38⟩, c39⟩, c40⟩, c41⟩, c42⟩, c43⟩, c44⟩, c45⟩, c46⟩, c47⟩, c48⟩, c49⟩, c50⟩, c51⟩, c52⟩, c53⟩, c54⟩, c55⟩, c56⟩, c57⟩, c58⟩, c59⟩ (m := 59) rfl rfl rfl) ?_
    exact gv_w (tb_law_2168 X F d hd k18 K18 _ _ _ _ h) (And.intro rfl (And.intro rfl (And.intro rfl (And.intro rfl trivial))))
set_option maxRecDepth 100000 in
set_option maxHeartbeats 4000000 in
theorem t_law_18 (X : ev_X) (F : Nat) (d : Nat) (hd : 105 ≤ d + 1)  : ∀ (n : Nat) (l3 : Int32) (D : mx_D) (E : mx_E) (v : Int32 × mx_D × mx_E), g_law_18 F X n l3 D E = some v → ev X (d + 1) 337 (18, [some (.ref 2001), some (.ref 0), some (.ref 116), some (.int l3)], [], D, E) (qR (some (.int v.1)) v.2.1 v.2.2) := by
  intro n
  induction n with
  | zero => intro l3 D E v h; cases h
  | succ n ih => intro l3 D E v h; exact tb_law_18 X F d hd (g_law_18 F X n) ih l3 D E v h
set_option maxRecDepth 100000 in
set_option maxHeartbeats 4000000 in
theorem t_law (X : ev_X) (F : Nat) (d : Nat) (hd : 105 ≤ d + 1) (D : mx_D) (E : mx_E) (v : Int32 × mx_D × mx_E) (h : g_law F X D E = some v) : ev X (d + 1) 337 (16, [some (.ref 2001), some (.ref 0), some (.ref 116), none], [], D, E) (qR (some (.int v.1)) v.2.1 v.2.2) := by
  have hq : kq_m 337 = some kq_q337 := rfl
  unfold g_law at h
  have hs := lc_s0
  refine gw_n hq hs 2 (S' := (18, [some (.ref 2001), some (.ref 0), some (.ref 116), some (.int (nI 0))], [], D, E)) rfl ?_
  exact gv_w (t_law_18 X F d hd F _ _ _ _ h) (And.intro rfl (And.intro rfl (And.intro rfl (And.intro rfl trivial))))
