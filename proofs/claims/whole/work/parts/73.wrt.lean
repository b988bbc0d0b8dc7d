/-! ===== write, paste ===== -/
section WT
variable {D : mx_D} {E : mx_E} {F : Nat}
theorem shb (v : BitVec 64) {i : Nat} (hi : i < 64) (k : Nat) (hk : 0 < k) (hk2 : k ≤ 64) : (((v <<< (64 - k)).sshiftRight (64 - k)).getLsbD i) = if i < k then v.getLsbD i else v.getLsbD (k - 1) := by
  rw [BitVec.getLsbD_sshiftRight]
  have h1 : (!decide (64 ≤ i)) = true := by simp; omega
  rw [h1, Bool.true_and]
  by_cases h : i < k
  · rw [if_pos (by omega), if_pos h, BitVec.getLsbD_shiftLeft]
    have h2 : decide (64 - k + i < 64) = true := decide_eq_true (by omega)
    have h3 : (!decide (64 - k + i < 64 - k)) = true := by simp
    rw [h2, h3, Bool.true_and, Bool.true_and]
    congr 1
    omega
  · rw [if_neg (by omega), if_neg h, BitVec.msb_eq_getLsbD_last, BitVec.getLsbD_shiftLeft]
    have h2 : decide (64 - 1 < 64) = true := by decide
    have h3 : (!decide (64 - 1 < 64 - k)) = true := by simp; omega
    rw [h2, h3, Bool.true_and, Bool.true_and]
    congr 1
    omega
theorem sxb {n m : Nat} (v : BitVec n) (hm : 0 < n) {i : Nat} (hi : i < m) : (v.signExtend m).getLsbD i = if i < n then v.getLsbD i else v.getLsbD (n - 1) := by
  rw [BitVec.getLsbD_signExtend, decide_eq_true hi, Bool.true_and, BitVec.msb_eq_getLsbD_last]
theorem cut_0 (v : Int64) : g_M_cut2 v (nI 0) = ((v.toInt32).toInt8.toInt32).toInt64 := by
  apply Int64.toBitVec_inj.1
  show ((v.toBitVec <<< (64 - 8)).sshiftRight (64 - 8)) = (((v.toBitVec.signExtend 32).signExtend 8).signExtend 32).signExtend 64
  apply BitVec.eq_of_getLsbD_eq
  intro i hi
  rw [shb _ hi 8 (by decide) (by decide), sxb _ (by decide) hi]
  by_cases h : i < 8
  · rw [if_pos h, if_pos (by omega), sxb _ (by decide) (by omega), if_pos h, sxb _ (by decide) (by omega), if_pos (by omega), sxb _ (by decide) (by omega), if_pos (by omega)]
  · rw [if_neg h]
    split
    · rw [sxb _ (by decide) (by omega), if_neg h, sxb _ (by decide) (by omega), if_pos (by omega), sxb _ (by decide) (by omega), if_pos (by omega)]
    · rw [sxb _ (by decide) (by omega), if_neg (by omega), sxb _ (by decide) (by omega), if_pos (by omega), sxb _ (by decide) (by omega), if_pos (by omega)]
theorem cut_1 (v : Int64) : g_M_cut2 v (nI 1) = ((v.toInt32).toInt16.toInt32).toInt64 := by
  apply Int64.toBitVec_inj.1
  show ((v.toBitVec <<< (64 - 16)).sshiftRight (64 - 16)) = (((v.toBitVec.signExtend 32).signExtend 16).signExtend 32).signExtend 64
  apply BitVec.eq_of_getLsbD_eq
  intro i hi
  rw [shb _ hi 16 (by decide) (by decide), sxb _ (by decide) hi]
  by_cases h : i < 16
  · rw [if_pos h, if_pos (by omega), sxb _ (by decide) (by omega), if_pos h, sxb _ (by decide) (by omega), if_pos (by omega), sxb _ (by decide) (by omega), if_pos (by omega)]
  · rw [if_neg h]
    split
    · rw [sxb _ (by decide) (by omega), if_neg h, sxb _ (by decide) (by omega), if_pos (by omega), sxb _ (by decide) (by omega), if_pos (by omega)]
    · rw [sxb _ (by decide) (by omega), if_neg (by omega), sxb _ (by decide) (by omega), if_pos (by omega), sxb _ (by decide) (by omega), if_pos (by omega)]
theorem cut_2 (v : Int64) : g_M_cut2 v (nI 2) = (v.toInt32).toInt64 := by
  apply Int64.toBitVec_inj.1
  show ((v.toBitVec <<< (64 - 32)).sshiftRight (64 - 32)) = (v.toBitVec.signExtend 32).signExtend 64
  apply BitVec.eq_of_getLsbD_eq
  intro i hi
  rw [shb _ hi 32 (by decide) (by decide), sxb _ (by decide) hi]
  by_cases h : i < 32
  · rw [if_pos h, if_pos h, sxb _ (by decide) (by omega), if_pos (by omega)]
  · rw [if_neg h, if_neg h, sxb _ (by decide) (by omega), if_pos (by omega)]
theorem cut_3 (v : Int64) : g_M_cut2 v (nI 3) = v := by
  apply Int64.toBitVec_inj.1
  show ((v.toBitVec <<< (64 - 64)).sshiftRight (64 - 64)) = v.toBitVec
  apply BitVec.eq_of_getLsbD_eq
  intro i hi
  rw [shb _ hi 64 (by decide) (by decide), if_pos hi]
def cutW (wd : Nat) (v : Int64) : Int64 := if wd = 0 then ((v.toInt32).toInt8.toInt32).toInt64 else if wd = 1 then ((v.toInt32).toInt16.toInt32).toInt64 else if wd = 2 then (v.toInt32).toInt64 else v
theorem cutM {wd : Nat} (h : wd < 4) (v : Int64) : g_M_cut2 v (nI wd) = cutW wd v := by
  rcases (show wd = 0 ∨ wd = 1 ∨ wd = 2 ∨ wd = 3 by omega) with rfl | rfl | rfl | rfl
  · exact cut_0 v
  · exact cut_1 v
  · exact cut_2 v
  · exact cut_3 v
/-- write, by the slot -/
def lfW (D : mx_D) (s : Nat) (i : Int32) (v : Int64) (E : mx_E) : Option (Int32 × mx_E) := if D (108 + 2 * s) 1 = 0 then some (-6, E) else if i < 0 then some (-7, E) else if i < D (108 + 2 * s) 3 then rk 60 i (some (nI 0, sE E (109 + 2 * s) i.toNatClampNeg (if D (108 + 2 * s) 2 = nI 0 then ((v.toInt32).toInt8.toInt32).toInt64 else if D (108 + 2 * s) 2 = nI 1 then ((v.toInt32).toInt16.toInt32).toInt64 else if D (108 + 2 * s) 2 = nI 2 then (v.toInt32).toInt64 else v))) else some (-7, E)
theorem X_write_s {s : Nat} (hs : s < 4) (i : Int32) (v : Int64) : g_X_write D (nI s) i v E = lfW D s i v E := by
  rcases (show s = 0 ∨ s = 1 ∨ s = 2 ∨ s = 3 by omega) with rfl | rfl | rfl | rfl <;> rfl
theorem op_write (h : RL D E) (a b : Int32) (v : Int64) : ∃ r E1 E2, g_X_write D a b v E = some (r, E1) ∧ g_M_write D a b v E1 = some (r, E2) ∧ RL D E2 := by
  have bad : ∀ r, g_X_write D a b v E = some (r, E) → g_M_write D a b v E = some (r, E) → ∃ r E1 E2, g_X_write D a b v E = some (r, E1) ∧ g_M_write D a b v E1 = some (r, E2) ∧ RL D E2 := fun r q1 q2 => ⟨r, E, E, q1, q2, h⟩
  rcases vx_c a 4 (by decide) with q | ⟨s, hs, rfl⟩
  · refine bad (-2) ?_ ?_
    · unfold g_X_write
      rw [isSlot_x, q, b01_if]
      rfl
    · unfold g_M_write
      rw [M_isSlot_s, q, b01_if]
      rfl
  · have hS := h.2.2.2.2.2.2 s hs
    unfold SL at hS
    rcases hS with ⟨s1, s2⟩ | ⟨m, wd, s1, s2, s3, s4, s5, s6, s7, s8⟩
    · refine bad (-6) ?_ ?_
      · rw [X_write_s hs]
        unfold lfW
        rw [s2, if_pos (show nI 0 = 0 from rfl)]
      · unfold g_M_write
        rw [M_isSlot_s, vx_nI (by omega), decide_eq_true hs, b01_if, if_pos rfl, rk_in hs (by decide), nI_clamp (by omega), s1, if_pos rfl]
    · have mx : ∀ E1, g_M_write D (nI s) b v E1 = if vx b m = true then rk 240 (nI 60 * nI s + b) (some (nI 0, sE E1 139 ((nI 60 * nI s + b)).toNatClampNeg (cutW wd v))) else some (-7, E1) := by
        intro E1
        unfold g_M_write
        rw [M_isSlot_s, vx_nI (by omega), decide_eq_true hs, b01_if, if_pos rfl, rk_in hs (by decide), rk_in hs (by decide), rk_in hs (by decide), nI_clamp (by omega), s3, if_neg (nI_m1 (by omega)), M_in_0 _ (by omega), vl_i, b01_if, s7, cutM s2]
      have hw : ∀ P Q : Option (Int32 × mx_E), (if b < 0 then P else if b < nI m then Q else P) = if vx b m = true then Q else P := by
        intro P Q
        cases m with
        | zero =>
          have hv : vx b 0 = false := by
            unfold vx
            by_cases z : 0 ≤ b.toInt
            · rw [decide_eq_true z, decide_eq_false (by omega)]
              rfl
            · rw [decide_eq_false z]
              rfl
          rw [hv]
          by_cases z : b < 0
          · rw [if_pos z]
            rfl
          · rw [if_neg z, if_neg (show ¬ b < nI 0 from z)]
            rfl
        | succ m => exact rng_lt b (m := m) (by omega) P Q
      rcases vx_c b m (by omega) with q | ⟨i, hi, rfl⟩
      · refine bad (-7) ?_ (by rw [mx, q]; rfl)
        rw [X_write_s hs]
        unfold lfW
        rw [s4, s5, if_neg (show ¬ nI 1 = 0 by decide), hw, q]
        rfl
      · refine ⟨nI 0, sE E (109 + 2 * s) i (cutW wd v), sE (sE E (109 + 2 * s) i (cutW wd v)) 139 (60 * s + i) (cutW wd v), ?_, ?_, ?_⟩
        · rw [X_write_s hs]
          unfold lfW cutW
          rw [s4, s5, s6, if_neg (show ¬ nI 1 = 0 by decide), hw, vx_nI (by omega), decide_eq_true hi, if_pos rfl, rk_in (by omega) (by decide), nI_clamp (by omega)]
          rcases (show wd = 0 ∨ wd = 1 ∨ wd = 2 ∨ wd = 3 by omega) with rfl | rfl | rfl | rfl <;> rfl
        · rw [mx, vx_nI (by omega), decide_eq_true hi, if_pos rfl, pk_mul, nI_add, rk_in (by omega) (by decide), nI_clamp (by omega)]
        · refine RL_s h hs (Or.inr ⟨m, wd, s1, s2, s3, s4, s5, s6, s7, fun j hj => ?_⟩) (fun _ _ _ _ => rfl) (fun _ _ => ⟨rfl, rfl⟩) (fun c z1 z2 z3 => ?_) (fun j hj => ?_)
          · rw [sE_ne _ _ _ _ (show 109 + 2 * s ≠ 139 by omega)]
            by_cases c : j = i
            · subst c
              rw [sE_eq, sE_eq]
            · rw [sE_nj _ _ _ c, sE_nj _ _ _ (by omega), sE_ne _ _ _ _ (by omega), s8 j hj]
          · rw [sE_nr _ _ _ z2, sE_nr _ _ _ z1]
          · rw [sE_nj _ _ _ (by omega), sE_ne _ _ _ _ (by omega)]
/-- whether n numbers stand from i on -/
def hld (m : Nat) (i n : Int32) : Bool := decide (0 ≤ i.toInt) && (decide (0 ≤ n.toInt) && decide (i.toInt + n.toInt ≤ m))
def hol (m i n : Int32) : Int32 := if i < 0 then nI 0 else if n < 0 then nI 0 else if m < i then nI 0 else if m - i < n then nI 0 else nI 1
theorem hol_s {m : Nat} (hm : m ≤ 60) (i n : Int32) : hol (nI m) i n = b01 (hld m i n) := by
  unfold hol hld
  have z0 : (0 : Int32).toInt = 0 := by decide
  by_cases h1 : i < 0
  · rw [if_pos h1, decide_eq_false (by rw [Int32.lt_iff_toInt_lt] at h1; omega)]
    rfl
  · obtain ⟨a, ha, rfl⟩ := nI_of h1
    rw [if_neg h1, nI_toInt ha, decide_eq_true (show (0 : Int) ≤ a by omega), Bool.true_and]
    by_cases h2 : n < 0
    · rw [if_pos h2, decide_eq_false (by rw [Int32.lt_iff_toInt_lt] at h2; omega)]
      rfl
    · obtain ⟨b, hb, rfl⟩ := nI_of h2
      rw [if_neg h2, nI_toInt hb, decide_eq_true (show (0 : Int) ≤ b by omega), Bool.true_and]
      by_cases h3 : m < a
      · rw [if_pos (nI_lt h3 (by omega)), decide_eq_false (by omega)]
        rfl
      · rw [if_neg (nI_nlt (by omega) (by omega)), pk_sub (by omega)]
        by_cases h4 : m - a < b
        · rw [if_pos (nI_lt h4 (by omega)), decide_eq_false (by omega)]
          rfl
        · rw [if_neg (nI_nlt (by omega) (by omega)), decide_eq_true (by omega)]
          rfl
def lfP (D : mx_D) (s t : Nat) (i k n : Int32) (E : mx_E) : Option (Int32 × mx_E) := if D (108 + 2 * s) 1 = 0 then some (-6, E) else if D (108 + 2 * t) 1 = 0 then some (-6, E) else if D (108 + 2 * s) 2 = D (108 + 2 * t) 2 then (if hol (D (108 + 2 * s) 3) i n = 0 then some (-7, E) else if hol (D (108 + 2 * t) 3) k n = 0 then some (-7, E) else ak i k n 60 60 (some (nI 0, cE E (109 + 2 * s) (109 + 2 * t) i.toNatClampNeg k.toNatClampNeg n.toNatClampNeg))) else some (-8, E)
theorem X_paste_s {s t : Nat} (hs : s < 4) (ht : t < 4) (i k n : Int32) : g_X_paste D (nI s) i (nI t) k n E = lfP D s t i k n E := by
  rcases (show s = 0 ∨ s = 1 ∨ s = 2 ∨ s = 3 by omega) with rfl | rfl | rfl | rfl <;> rcases (show t = 0 ∨ t = 1 ∨ t = 2 ∨ t = 3 by omega) with rfl | rfl | rfl | rfl <;> rfl
theorem hld_t {m : Nat} (hm : m ≤ 60) {i n : Int32} (h : hld m i n = true) : ∃ a b, i = nI a ∧ n = nI b ∧ a + b ≤ m := by
  unfold hld at h
  simp only [Bool.and_eq_true, decide_eq_true_eq] at h
  have z0 : (0 : Int32).toInt = 0 := by decide
  obtain ⟨a, ha, rfl⟩ := nI_of (x := i) (by rw [Int32.lt_iff_toInt_lt]; omega)
  obtain ⟨b, hb, rfl⟩ := nI_of (x := n) (by rw [Int32.lt_iff_toInt_lt]; omega)
  rw [nI_toInt ha, nI_toInt hb] at h
  exact ⟨a, b, rfl, rfl, by omega⟩
/-- the reference's own check -/
theorem M_hld {m1 m2 : Nat} (h1 : m1 ≤ 60) (h2 : m2 ≤ 60) (i k n : Int32) (P Q : Option (Int32 × mx_E)) : (if i < 0 then P else if k < 0 then P else if n < 0 then P else if 0 < lg_cmp (i.toInt64 + n.toInt64) ((nI m1).toInt64) then P else if lg_cmp (k.toInt64 + n.toInt64) ((nI m2).toInt64) ≤ 0 then Q else P) = if (hld m1 i n && hld m2 k n) = true then Q else P := by
  have z0 : (0 : Int32).toInt = 0 := by decide
  unfold hld
  by_cases c1 : i < 0
  · rw [if_pos c1, decide_eq_false (by rw [Int32.lt_iff_toInt_lt] at c1; omega)]
    rfl
  · obtain ⟨a, ha, rfl⟩ := nI_of c1
    by_cases c2 : k < 0
    · rw [if_neg c1, if_pos c2, decide_eq_false (show ¬ 0 ≤ k.toInt by rw [Int32.lt_iff_toInt_lt] at c2; omega), Bool.false_and, Bool.and_false]
      rfl
    · obtain ⟨b, hb, rfl⟩ := nI_of c2
      by_cases c3 : n < 0
      · rw [if_neg c1, if_neg c2, if_pos c3, decide_eq_false (show ¬ 0 ≤ n.toInt by rw [Int32.lt_iff_toInt_lt] at c3; omega), Bool.false_and, Bool.and_false, Bool.false_and]
        rfl
      · obtain ⟨q, hq, rfl⟩ := nI_of c3
        rw [if_neg c1, if_neg c2, if_neg c3, nI_l ha, nI_l hb, nI_l hq, nI_l (n := m1) (by omega), nI_l (n := m2) (by omega), lN_add, lN_add, nI_toInt ha, nI_toInt hb, nI_toInt hq, decide_eq_true (show (0 : Int) ≤ a by omega), decide_eq_true (show (0 : Int) ≤ b by omega), decide_eq_true (show (0 : Int) ≤ q by omega), Bool.true_and, Bool.true_and, Bool.true_and, Bool.true_and]
        by_cases c4 : a + q ≤ m1
        · rw [if_neg (fun z => by have := (pk_lLT (by omega) (by omega)).mp ((lg_cmp_gt _ _).mp z); omega), decide_eq_true (show (a : Int) + q ≤ m1 by omega), Bool.true_and]
          by_cases c5 : b + q ≤ m2
          · rw [if_pos (le0_lg.mpr (fun z => by have := (pk_lLT (by omega) (by omega)).mp z; omega)), decide_eq_true (show (b : Int) + q ≤ m2 by omega), if_pos rfl]
          · rw [if_neg (fun z => (le0_lg.mp z) ((pk_lLT (by omega) (by omega)).mpr (by omega))), decide_eq_false (show ¬ (b : Int) + q ≤ m2 by omega), if_neg (by decide)]
        · rw [if_pos ((lg_cmp_gt _ _).mpr ((pk_lLT (by omega) (by omega)).mpr (by omega))), decide_eq_false (show ¬ (a : Int) + q ≤ m1 by omega), Bool.false_and, if_neg (by decide)]
theorem cE_nr (E : mx_E) {a b c : Nat} (sp dp n : Nat) (h : c ≠ b) : cE E a b sp dp n c = E c := by
  unfold cE va_up
  rw [if_neg h]
theorem cE_at (E : mx_E) (a b sp dp n j : Nat) : cE E a b sp dp n b j = if dp ≤ j ∧ j < dp + n then E a (sp + (j - dp)) else E b j := by
  unfold cE va_up va_cpy
  rw [if_pos rfl]
theorem op_paste (hF : 1000 ≤ F) (h : RL D E) (a i c k n : Int32) : ∃ r E1 E2, g_X_paste D a i c k n E = some (r, E1) ∧ g_M_paste F D a i c k n E1 = some (r, E2) ∧ RL D E2 := by
  have bad : ∀ r, g_X_paste D a i c k n E = some (r, E) → g_M_paste F D a i c k n E = some (r, E) → ∃ r E1 E2, g_X_paste D a i c k n E = some (r, E1) ∧ g_M_paste F D a i c k n E1 = some (r, E2) ∧ RL D E2 := fun r q1 q2 => ⟨r, E, E, q1, q2, h⟩
  rcases vx_c a 4 (by decide) with q | ⟨s, hs, rfl⟩
  · refine bad (-2) ?_ ?_
    · unfold g_X_paste
      rw [isSlot_x, q, b01_if]
      rfl
    · unfold g_M_paste
      rw [M_isSlot_s, q, b01_if]
      rfl
  · rcases vx_c c 4 (by decide) with q | ⟨t, ht, rfl⟩
    · refine bad (-2) ?_ ?_
      · unfold g_X_paste
        rw [isSlot_x, isSlot_x, vx_nI (by omega), decide_eq_true hs, b01_if, if_pos rfl, q, b01_if]
        rfl
      · unfold g_M_paste
        rw [M_isSlot_s, M_isSlot_s, vx_nI (by omega), decide_eq_true hs, b01_if, if_pos rfl, q, b01_if]
        rfl
    · have eM : ∀ E1, g_M_paste F D (nI s) i (nI t) k n E1 = if D 137 s = -1 then some (-6, E1) else if D 137 t = -1 then some (-6, E1) else if D 138 s = D 138 t then (if i < 0 then some (-7, E1) else if k < 0 then some (-7, E1) else if n < 0 then some (-7, E1) else if 0 < lg_cmp (i.toInt64 + n.toInt64) ((D 137 s).toInt64) then some (-7, E1) else if lg_cmp (k.toInt64 + n.toInt64) ((D 137 t).toInt64) ≤ 0 then g_M_paste_113 F D F (nI s) i (nI t) k n (nI 0) E1 else some (-7, E1)) else some (-8, E1) := by
        intro E1
        unfold g_M_paste
        rw [M_isSlot_s, M_isSlot_s, vx_nI (by omega), vx_nI (by omega), decide_eq_true hs, decide_eq_true ht, b01_if, b01_if, if_pos rfl, if_pos rfl]
        simp (disch := omega) only [rk_in, nI_clamp]
      have hS := h.2.2.2.2.2.2 s hs
      have hT := h.2.2.2.2.2.2 t ht
      unfold SL at hS hT
      rcases hS with ⟨s1, s2⟩ | ⟨m, wd, s1, s2, s3, s4, s5, s6, s7, s8⟩
      · refine bad (-6) ?_ ?_
        · rw [X_paste_s hs ht]
          unfold lfP
          rw [s2, if_pos (show nI 0 = 0 from rfl)]
        · rw [eM, if_pos s1]
      · rcases hT with ⟨t1, t2⟩ | ⟨m', wd', t1, t2, t3, t4, t5, t6, t7, t8⟩
        · refine bad (-6) ?_ ?_
          · rw [X_paste_s hs ht]
            unfold lfP
            rw [s4, t2, if_neg (show ¬ nI 1 = 0 by decide), if_pos (show nI 0 = 0 from rfl)]
          · rw [eM, s3, if_neg (nI_m1 (by omega)), if_pos t1]
        · have eX : g_X_paste D (nI s) i (nI t) k n E = if nI wd = nI wd' then (if (hld m i n && hld m' k n) = true then ak i k n 60 60 (some (nI 0, cE E (109 + 2 * s) (109 + 2 * t) i.toNatClampNeg k.toNatClampNeg n.toNatClampNeg)) else some (-7, E)) else some (-8, E) := by
            rw [X_paste_s hs ht]
            unfold lfP
            rw [s4, t4, s5, t5, s6, t6, if_neg (show ¬ nI 1 = 0 by decide), if_neg (show ¬ nI 1 = 0 by decide), hol_s s1, hol_s t1, b01_if, b01_if]
            cases hld m i n <;> cases hld m' k n <;> rfl
          by_cases hw : wd = wd'
          · subst hw
            cases hh : hld m i n && hld m' k n
            · refine bad (-7) (by rw [eX, if_pos rfl, hh]; rfl) ?_
              rw [eM, s3, t3, s7, t7, if_neg (nI_m1 (by omega)), if_neg (nI_m1 (by omega)), if_pos rfl, M_hld s1 t1, hh]
              rfl
            · have hh2 := hh
              simp only [Bool.and_eq_true] at hh
              obtain ⟨a, b, rfl, rfl, hab⟩ := hld_t s1 hh.1
              obtain ⟨d, b2, rfl, hb2, hdb⟩ := hld_t t1 hh.2
              have eb : b2 = b := ((nI_eq (by omega) (by omega)).mp hb2).symm
              subst eb
              have k113 := lp0 (F := F) (s := cE E (109 + 2 * s) (109 + 2 * t) a d b2) (fun x (u : mx_E) => (∀ c, c ≠ 140 → u c = cE E (109 + 2 * s) (109 + 2 * t) a d b2 c) ∧ (∀ j, j < x → u 140 j = E 139 (60 * s + a + j))) (fun (r : Int32 × mx_E) => r.1 = nI 0 ∧ (∀ c, c ≠ 140 → c ≠ 139 → r.2 c = cE E (109 + 2 * s) (109 + 2 * t) a d b2 c) ∧ (∀ j, r.2 139 j = if 60 * t + d ≤ j ∧ j < 60 * t + d + b2 then E 139 (60 * s + a + (j - (60 * t + d))) else E 139 j)) (fun f x u => g_M_paste_113 F D f (nI s) (nI a) (nI t) (nI d) (nI b2) (nI x) u) (n := b2) (by omega) ⟨fun _ _ => rfl, fun j hj => absurd hj (Nat.not_lt_zero j)⟩ (fun f x u hx hI => ?_) (fun f u hI => ?_)
              · obtain ⟨r, k1, k2, k3, k4⟩ := k113
                refine ⟨nI 0, cE E (109 + 2 * s) (109 + 2 * t) a d b2, r.2, ?_, ?_, ?_⟩
                · rw [eX, if_pos rfl, hh2, if_pos rfl]
                  unfold ak
                  rw [nI_clamp (by omega), nI_clamp (by omega), nI_clamp (by omega), if_neg]
                  rintro (z | z | z | z | z)
                  · exact nI_pos (by omega) z
                  · exact nI_pos (by omega) z
                  · exact nI_pos (by omega) z
                  · omega
                  · omega
                · rw [eM, s3, t3, s7, t7, if_neg (nI_m1 (by omega)), if_neg (nI_m1 (by omega)), if_pos rfl, M_hld s1 t1, hh2, if_pos rfl]
                  exact k1.trans (congrArg some (Prod.ext k2 rfl))
                · refine RL_s h ht (Or.inr ⟨m', wd, t1, t2, t3, t4, t5, t6, t7, fun j hj => ?_⟩) (fun _ _ _ _ => rfl) (fun _ _ => ⟨rfl, rfl⟩) (fun c z1 z2 z3 => ?_) (fun j hj => ?_)
                  · rw [k3 _ (by omega) (by omega), cE_at, k4]
                    by_cases c : d ≤ j ∧ j < d + b2
                    · rw [if_pos c, if_pos (by omega), s8 _ (by omega)]
                      congr 1
                      omega
                    · rw [if_neg c, if_neg (by omega), t8 j hj]
                  · rw [k3 c z3 z2, cE_nr _ _ _ _ z1]
                  · rw [k4, if_neg (by omega)]
              · obtain ⟨i1, i2⟩ := hI
                refine ⟨sE u 140 x (E 139 (60 * s + a + x)), ⟨fun c hc => ?_, fun j hj => ?_⟩, ?_⟩
                · rw [sE_nr _ _ _ hc, i1 c hc]
                · by_cases c : j = x
                  · subst c
                    rw [sE_eq]
                  · rw [sE_nj _ _ _ c, i2 j (by omega)]
                · show g_M_paste_113 F D (f + 1) _ _ _ _ _ _ _ = _
                  rw [s_M_paste_113]
                  unfold b_M_paste_113
                  rw [if_neg (nI_ge hx (by omega)), pk_mul, nI_add, nI_add, rk_in (by omega) (by decide), rk_in (by omega) (by decide), nI_clamp (by omega), nI_clamp (by omega), i1 139 (by decide), cE_nr _ _ _ _ (by omega), nI_add]
              · obtain ⟨i1, i2⟩ := hI
                have e139 : u 139 = E 139 := by rw [i1 139 (by decide), cE_nr _ _ _ _ (by omega)]
                have k150 := lp0 (F := F) (s := u) (fun x (v : mx_E) => (∀ c, c ≠ 139 → v c = u c) ∧ (∀ j, v 139 j = if 60 * t + d ≤ j ∧ j < 60 * t + d + x then E 139 (60 * s + a + (j - (60 * t + d))) else E 139 j)) (fun (r : Int32 × mx_E) => r.1 = nI 0 ∧ (∀ c, c ≠ 139 → r.2 c = u c) ∧ (∀ j, r.2 139 j = if 60 * t + d ≤ j ∧ j < 60 * t + d + b2 then E 139 (60 * s + a + (j - (60 * t + d))) else E 139 j)) (fun f x v => g_M_paste_150 F D f (nI t) (nI d) (nI b2) (nI x) v) (n := b2) (by omega) ⟨fun _ _ => rfl, fun j => by rw [if_neg (by omega), e139]⟩ (fun f x v hx hJ => ?_) (fun f v hJ => ?_)
                · obtain ⟨r, k1, k2, k3, k4⟩ := k150
                  refine ⟨r, ?_, k2, fun c z1 z2 => by rw [k3 c z2, i1 c z1], k4⟩
                  show g_M_paste_113 F D (f + 1) _ _ _ _ _ _ _ = _
                  rw [s_M_paste_113]
                  unfold b_M_paste_113
                  rw [if_pos (nI_le (Nat.le_refl _) (by omega))]
                  exact k1
                · refine ⟨sE v 139 (60 * t + d + x) (E 139 (60 * s + a + x)), ⟨fun c hc => ?_, fun j => ?_⟩, ?_⟩
                  · rw [sE_nr _ _ _ hc, hJ.1 c hc]
                  · by_cases c : j = 60 * t + d + x
                    · subst c
                      rw [sE_eq, if_pos (by omega)]
                      congr 1
                      omega
                    · rw [sE_nj _ _ _ c, hJ.2 j]
                      by_cases c2 : 60 * t + d ≤ j ∧ j < 60 * t + d + x
                      · rw [if_pos c2, if_pos (by omega)]
                      · rw [if_neg c2, if_neg (by omega)]
                  · show g_M_paste_150 F D (f + 1) _ _ _ _ _ = _
                    rw [s_M_paste_150]
                    unfold b_M_paste_150
                    rw [if_neg (nI_ge hx (by omega)), rk_in (by omega) (by decide), pk_mul, nI_add, nI_add, rk_in (by omega) (by decide), nI_clamp (by omega), nI_clamp (by omega), hJ.1 140 (by decide), i2 x hx, nI_add]
                · refine ⟨(nI 0, v), ?_, rfl, hJ⟩
                  show g_M_paste_150 F D (f + 1) _ _ _ _ _ = _
                  rw [s_M_paste_150]
                  unfold b_M_paste_150
                  rw [if_pos (nI_le (Nat.le_refl _) (by omega))]
          · have hne : ¬ nI wd = nI wd' := fun z => hw ((nI_eq (by omega) (by omega)).mp z)
            refine bad (-8) (by rw [eX, if_neg hne]) ?_
            rw [eM, s3, t3, s7, t7, if_neg (nI_m1 (by omega)), if_neg (nI_m1 (by omega)), if_neg hne]
end WT
