/-! ===== pictures of the methods and the rows that tie them to their frames, printed by a program of mine ===== -/
def b_M_spread_25 (F : Nat) (l1 : Int32) (l2 : Int32) (D : mx_D) : Option (Int32 × mx_D) := (Option.bind (g_M_lay F l2 D) (fun r1 => (if l1 = (-1 : Int32) then (Option.bind (g_M_sitters F r1) (fun r2 => (Option.bind (g_M_spreadOf F r1 r2) (fun r3 => (some (r3, r1)))))) else (Option.bind (g_M_inPew F r1 l1) (fun r4 => (Option.bind (g_M_spreadOf F r1 r4) (fun r5 => (some (r5, r1)))))))))
set_option maxRecDepth 100000 in
set_option maxHeartbeats 4000000 in
theorem tb_M_spread_25 (X : ev_X) (F : Nat) (d : Nat) (hd : 5 ≤ d + 1) (E : mx_E)  (l1 : Int32) (l2 : Int32) (D : mx_D) (v : Int32 × mx_D) (h : b_M_spread_25 F l1 l2 D = some v) : ev X (d + 1) 235 (25, [some (.ref 116), some (.int l1), some (.int l2)], [], D, E) (qR (some (.int v.1)) v.2 E) := by
  have hq : kq_m 235 = some kq_q235 := rfl
  unfold b_M_spread_25 at h
  refine gv_n hq 2 (S' := (27, [some (.ref 116), some (.int l1), some (.int l2)], [.int l2, .ref 116], D, E)) rfl ?_
  obtain ⟨r1, h1, h⟩ := Option.bind_eq_some_iff.mp h
  refine gv_d hq rfl rfl rfl rfl rfl (gv_dd (by omega) (t_M_lay X F (d - 1) (by omega) E _ _ _ h1)) (S' := (30, [some (.ref 116), some (.int l1), some (.int l2)], [], r1, E)) rfl ?_
  refine gv_n hq 3 (S' := (33, [some (.ref 116), some (.int l1), some (.int l2)], [.int (-1 : Int32), .int l1, .ref 116], r1, E)) rfl ?_
  refine gv_b hq rfl h 36 43 rfl rfl rfl (fun h => ?_) (fun h => ?_)
  · refine gv_n hq 1 (S' := (37, [some (.ref 116), some (.int l1), some (.int l2)], [.ref 116, .ref 116], r1, E)) rfl ?_
    obtain ⟨r2, h1, h⟩ := Option.bind_eq_some_iff.mp h
    refine gv_d hq rfl rfl rfl rfl rfl (gv_dd (by omega) (t_M_sitters X F (d - 1) (by omega) r1 E _ h1)) (S' := (40, [some (.ref 116), some (.int l1), some (.int l2)], [.int r2, .ref 116], r1, E)) rfl ?_
    refine gv_n hq 1 (S' := (48, [some (.ref 116), some (.int l1), some (.int l2)], [.int r2, .ref 116], r1, E)) rfl ?_
    obtain ⟨r3, h1, h⟩ := Option.bind_eq_some_iff.mp h
    refine gv_d hq rfl rfl rfl rfl rfl (gv_dd (by omega) (t_M_spreadOf X F (d - 1) (by omega) r1 E _ _ h1)) (S' := (51, [some (.ref 116), some (.int l1), some (.int l2)], [.int r3], r1, E)) rfl ?_
    cases h
    exact ev_ret hq rfl rfl ⟨rfl, rfl, rfl⟩
  · refine gv_n hq 2 (S' := (45, [some (.ref 116), some (.int l1), some (.int l2)], [.int l1, .ref 116, .ref 116], r1, E)) rfl ?_
    obtain ⟨r4, h1, h⟩ := Option.bind_eq_some_iff.mp h
    refine gv_d hq rfl rfl rfl rfl rfl (gv_dd (by omega) (t_M_inPew X F (d - 1) (by omega) r1 E _ _ h1)) (S' := (48, [some (.ref 116), some (.int l1), some (.int l2)], [.int r4, .ref 116], r1, E)) rfl ?_
    obtain ⟨r5, h1, h⟩ := Option.bind_eq_some_iff.mp h
    refine gv_d hq rfl rfl rfl rfl rfl (gv_dd (by omega) (t_M_spreadOf X F (d - 1) (by omega) r1 E _ _ h1)) (S' := (51, [some (.ref 116), some (.int l1), some (.int l2)], [.int r5], r1, E)) rfl ?_
    cases h
    exact ev_ret hq rfl rfl ⟨rfl, rfl, rfl⟩
def g_M_spread (F : Nat) (a1 : Int32) (a2 : Int32) (D : mx_D) : Option (Int32 × mx_D) := (if (g_M_isYear D a2) = 0 then (some ((-2 : Int32), D)) else (if a1 = (-1 : Int32) then (b_M_spread_25 F a1 a2 D) else (if (g_M_isPew D ((a1).toInt64)) = 0 then (some ((-2 : Int32), D)) else (b_M_spread_25 F a1 a2 D))))
set_option maxRecDepth 100000 in
set_option maxHeartbeats 4000000 in
theorem t_M_spread (X : ev_X) (F : Nat) (d : Nat) (hd : 5 ≤ d + 1) (E : mx_E) (a1 : Int32) (a2 : Int32) (D : mx_D) (v : Int32 × mx_D) (h : g_M_spread F a1 a2 D = some v) : ev X (d + 1) 235 (0, [some (.ref 116), some (.int a1), some (.int a2)], [], D, E) (qR (some (.int v.1)) v.2 E) := by
  have hq : kq_m 235 = some kq_q235 := rfl
  unfold g_M_spread at h
  refine gv_n hq 2 (S' := (2, [some (.ref 116), some (.int a1), some (.int a2)], [.int a2, .ref 116], D, E)) rfl ?_
  refine gv_d hq rfl rfl rfl rfl rfl (gv_dd (by omega) (t_M_isYear X (d - 1) (by omega) D E _ _ rfl)) (S' := (5, [some (.ref 116), some (.int a1), some (.int a2)], [.int (g_M_isYear D a2)], D, E)) rfl ?_
  refine gv_b hq rfl h 22 8 rfl rfl rfl (fun h => ?_) (fun h => ?_)
  · refine gv_n hq 1 (S' := (24, [some (.ref 116), some (.int a1), some (.int a2)], [.int (-2 : Int32)], D, E)) rfl ?_
    cases h
    exact ev_ret hq rfl rfl ⟨rfl, rfl, rfl⟩
  · refine gv_n hq 2 (S' := (10, [some (.ref 116), some (.int a1), some (.int a2)], [.int (-1 : Int32), .int a1], D, E)) rfl ?_
    refine gv_b hq rfl h 25 13 rfl rfl rfl (fun h => ?_) (fun h => ?_)
    · exact gv_w (tb_M_spread_25 X F d hd E _ _ _ _ h) (And.intro rfl (And.intro rfl (And.intro rfl trivial)))
    · refine gv_n hq 3 (S' := (16, [some (.ref 116), some (.int a1), some (.int a2)], [.long ((a1).toInt64), .ref 116], D, E)) rfl ?_
      refine gv_d hq rfl rfl rfl rfl rfl (gv_dd (by omega) (t_M_isPew X (d - 1) (by omega) D E _ _ rfl)) (S' := (19, [some (.ref 116), some (.int a1), some (.int a2)], [.int (g_M_isPew D ((a1).toInt64))], D, E)) rfl ?_
      refine gv_b hq rfl h 22 25 rfl rfl rfl (fun h => ?_) (fun h => ?_)
      · refine gv_n hq 1 (S' := (24, [some (.ref 116), some (.int a1), some (.int a2)], [.int (-2 : Int32)], D, E)) rfl ?_
        cases h
        exact ev_ret hq rfl rfl ⟨rfl, rfl, rfl⟩
      · exact gv_w (tb_M_spread_25 X F d hd E _ _ _ _ h) (And.intro rfl (And.intro rfl (And.intro rfl trivial)))
def b_Heights_apart_17 (F : Nat) (D : mx_D) (k17 : Int32 → Int32 → Int32 → Option (Int32)) (l1 : Int32) (l2 : Int32) (l3 : Int32) : Option (Int32) := (if (nI 4) ≤ l3 then (some l2) else (rk 4 l3 (Option.bind (g_Heights_spreadOf F D (l1 &&& (D 36 (l3).toNatClampNeg))) (fun r1 => (k17 l1 (imx l2 r1) (l3 + (nI 1)))))))
set_option maxRecDepth 100000 in
set_option maxHeartbeats 4000000 in
theorem tb_Heights_apart_17 (X : ev_X) (F : Nat) (d : Nat) (hd : 3 ≤ d + 1) (D : mx_D) (E : mx_E) (k17 : Int32 → Int32 → Int32 → Option (Int32)) (K17 : ∀ (l1 : Int32) (l2 : Int32) (l3 : Int32) (v : Int32), k17 l1 l2 l3 = some v → ev X (d + 1) 50 (17, [some (.ref 34), some (.int l1), some (.int l2), some (.int l3)], [], D, E) (qR (some (.int v)) D E)) (l1 : Int32) (l2 : Int32) (l3 : Int32) (v : Int32) (h : b_Heights_apart_17 F D k17 l1 l2 l3 = some v) : ev X (d + 1) 50 (17, [some (.ref 34), some (.int l1), some (.int l2), some (.int l3)], [], D, E) (qR (some (.int v)) D E) := by
  have hq : kq_m 50 = some kq_q50 := rfl
  unfold b_Heights_apart_17 at h
  refine gv_n hq 2 (S' := (19, [some (.ref 34), some (.int l1), some (.int l2), some (.int l3)], [.int (nI 4), .int l3], D, E)) rfl ?_
  refine gv_b hq rfl h 45 22 rfl rfl rfl (fun h => ?_) (fun h => ?_)
  · refine gv_n hq 1 (S' := (46, [some (.ref 34), some (.int l1), some (.int l2), some (.int l3)], [.int l2], D, E)) rfl ?_
    cases h
    exact ev_ret hq rfl rfl ⟨rfl, rfl, rfl⟩
  · refine gv_n hq 6 (S' := (30, [some (.ref 34), some (.int l1), some (.int l2), some (.int l3)], [.int l3, .ref 36, .int l1, .ref 34, .int l2], D, E)) rfl ?_
    refine gv_ia hq rfl rfl rfl h 31 rfl (fun h => ?_)
    refine gv_n hq 1 (S' := (32, [some (.ref 34), some (.int l1), some (.int l2), some (.int l3)], [.int (l1 &&& (D 36 (l3).toNatClampNeg)), .ref 34, .int l2], D, E)) rfl ?_
    obtain ⟨r1, h1, h⟩ := Option.bind_eq_some_iff.mp h
    refine gv_d hq rfl rfl rfl rfl rfl (gv_dd (by omega) (t_Heights_spreadOf X F (d - 1) (by omega) D E _ _ h1)) (S' := (35, [some (.ref 34), some (.int l1), some (.int l2), some (.int l3)], [.int r1, .int l2], D, E)) rfl ?_
    refine gv_n hq 4 (S' := (17, [some (.ref 34), some (.int l1), some (.int (imx l2 r1)), some (.int (l3 + (nI 1)))], [], D, E)) rfl ?_
    exact gv_w (K17 _ _ _ _ h) (And.intro rfl (And.intro rfl (And.intro rfl (And.intro rfl trivial))))
def g_Heights_apart_17 (F : Nat) (D : mx_D) : Nat → Int32 → Int32 → Int32 → Option (Int32) := it (fun k17 => b_Heights_apart_17 F D k17) (fun _ _ _ => none)
set_option maxRecDepth 100000 in
set_option maxHeartbeats 4000000 in
theorem t_Heights_apart_17 (X : ev_X) (F : Nat) (d : Nat) (hd : 3 ≤ d + 1) (D : mx_D) (E : mx_E)  : ∀ (n : Nat) (l1 : Int32) (l2 : Int32) (l3 : Int32) (v : Int32), g_Heights_apart_17 F D n l1 l2 l3 = some v → ev X (d + 1) 50 (17, [some (.ref 34), some (.int l1), some (.int l2), some (.int l3)], [], D, E) (qR (some (.int v)) D E) := by
  intro n
  induction n with
  | zero => intro l1 l2 l3 v h; cases h
  | succ n ih => intro l1 l2 l3 v h; exact tb_Heights_apart_17 X F d hd D E (g_Heights_apart_17 F D n) ih l1 l2 l3 v h
def g_Heights_apart (F : Nat) (D : mx_D) (a1 : Int32) : Option (Int32) := (if (D 34 3) = 0 then (g_Heights_apart_17 F D F a1 (nI 0) (nI 0)) else (Option.bind (g_Heights_spreadOf F D a1) (fun r2 => (some r2))))
set_option maxRecDepth 100000 in
set_option maxHeartbeats 4000000 in
theorem t_Heights_apart (X : ev_X) (F : Nat) (d : Nat) (hd : 3 ≤ d + 1) (D : mx_D) (E : mx_E) (a1 : Int32) (v : Int32) (h : g_Heights_apart F D a1 = some v) : ev X (d + 1) 50 (0, [some (.ref 34), some (.int a1), none, none], [], D, E) (qR (some (.int v)) D E) := by
  have hq : kq_m 50 = some kq_q50 := rfl
  unfold g_Heights_apart at h
  refine gv_n hq 2 (S' := (4, [some (.ref 34), some (.int a1), none, none], [.int (D 34 3)], D, E)) rfl ?_
  refine gv_b hq rfl h 13 7 rfl rfl rfl (fun h => ?_) (fun h => ?_)
  · refine gv_n hq 4 (S' := (17, [some (.ref 34), some (.int a1), some (.int (nI 0)), some (.int (nI 0))], [], D, E)) rfl ?_
    exact gv_w (t_Heights_apart_17 X F d hd D E F _ _ _ _ h) (And.intro rfl (And.intro rfl (And.intro rfl (And.intro rfl trivial))))
  · refine gv_n hq 2 (S' := (9, [some (.ref 34), some (.int a1), none, none], [.int a1, .ref 34], D, E)) rfl ?_
    obtain ⟨r2, h1, h⟩ := Option.bind_eq_some_iff.mp h
    refine gv_d hq rfl rfl rfl rfl rfl (gv_dd (by omega) (t_Heights_spreadOf X F (d - 1) (by omega) D E _ _ h1)) (S' := (12, [some (.ref 34), some (.int a1), none, none], [.int r2], D, E)) rfl ?_
    cases h
    exact ev_ret hq rfl rfl ⟨rfl, rfl, rfl⟩
def g_X_allAreLevel (F : Nat) (D : mx_D) : Option (Int32) := (Option.bind (g_Heights_apart F D (D 34 2)) (fun r1 => (if (D 19 2) < r1 then (some (nI 0)) else (some (nI 1)))))
set_option maxRecDepth 100000 in
set_option maxHeartbeats 4000000 in
theorem t_X_allAreLevel (X : ev_X) (F : Nat) (d : Nat) (hd : 4 ≤ d + 1) (D : mx_D) (E : mx_E) (v : Int32) (h : g_X_allAreLevel F D = some v) : ev X (d + 1) 122 (0, [some (.ref 0)], [], D, E) (qR (some (.int v)) D E) := by
  have hq : kq_m 122 = some kq_q122 := rfl
  unfold g_X_allAreLevel at h
  refine gv_n hq 5 (S' := (11, [some (.ref 0)], [.int (D 34 2), .ref 34], D, E)) rfl ?_
  obtain ⟨r1, h1, h⟩ := Option.bind_eq_some_iff.mp h
  refine gv_d hq rfl rfl rfl rfl rfl (gv_dd (by omega) (t_Heights_apart X F (d - 1) (by omega) D E _ _ h1)) (S' := (14, [some (.ref 0)], [.int r1], D, E)) rfl ?_
  refine gv_n hq 3 (S' := (21, [some (.ref 0)], [.int (D 19 2), .int r1], D, E)) rfl ?_
  refine gv_b hq rfl h 28 24 rfl rfl rfl (fun h => ?_) (fun h => ?_)
  · refine gv_n hq 1 (S' := (29, [some (.ref 0)], [.int (nI 0)], D, E)) rfl ?_
    cases h
    exact ev_ret hq rfl rfl ⟨rfl, rfl, rfl⟩
  · refine gv_n hq 2 (S' := (29, [some (.ref 0)], [.int (nI 1)], D, E)) rfl ?_
    cases h
    exact ev_ret hq rfl rfl ⟨rfl, rfl, rfl⟩
def g_X_isLevelIn (F : Nat) (a1 : Int32) (D : mx_D) : Option (Int32 × mx_D) := (Option.bind (g_Heights_take F a1 D) (fun r1 => (Option.bind (g_X_allAreLevel F r1) (fun r2 => (zk r2 (some (r2, r1)))))))
set_option maxRecDepth 100000 in
set_option maxHeartbeats 4000000 in
theorem t_X_isLevelIn (X : ev_X) (F : Nat) (d : Nat) (hd : 5 ≤ d + 1) (E : mx_E) (a1 : Int32) (D : mx_D) (v : Int32 × mx_D) (h : g_X_isLevelIn F a1 D = some v) : ev X (d + 1) 121 (0, [some (.ref 0), some (.int a1)], [], D, E) (qR (some (.int v.1)) v.2 E) := by
  have hq : kq_m 121 = some kq_q121 := rfl
  unfold g_X_isLevelIn at h
  refine gv_n hq 5 (S' := (9, [some (.ref 0), some (.int a1)], [.int a1, .ref 19, .ref 34], D, E)) rfl ?_
  obtain ⟨r1, h1, h⟩ := Option.bind_eq_some_iff.mp h
  refine gv_d hq rfl rfl rfl rfl rfl (gv_dd (by omega) (t_Heights_take X F (d - 1) (by omega) E _ _ _ h1)) (S' := (12, [some (.ref 0), some (.int a1)], [], r1, E)) rfl ?_
  refine gv_n hq 1 (S' := (13, [some (.ref 0), some (.int a1)], [.ref 0], r1, E)) rfl ?_
  obtain ⟨r2, h1, h⟩ := Option.bind_eq_some_iff.mp h
  refine gv_d hq rfl rfl rfl rfl rfl (gv_dd (by omega) (t_X_allAreLevel X F (d - 1) (by omega) r1 E _ h1)) (S' := (16, [some (.ref 0), some (.int a1)], [.int r2], r1, E)) rfl ?_
  obtain ⟨hz, h⟩ := gv_zi h
  cases h
  exact ev_rz hq rfl rfl rfl hz ⟨rfl, rfl, rfl⟩
def g_X_level (F : Nat) (a1 : Int32) (D : mx_D) : Option (Int32 × mx_D) := (if (g_X_canAsk D a1) = 0 then (some ((-2 : Int32), D)) else (Option.bind (g_X_isLevelIn F a1 D) (fun r1 => (if r1.1 = 0 then (some ((nI 0), r1.2)) else (some ((nI 1), r1.2))))))
set_option maxRecDepth 100000 in
set_option maxHeartbeats 4000000 in
theorem t_X_level (X : ev_X) (F : Nat) (d : Nat) (hd : 6 ≤ d + 1) (E : mx_E) (a1 : Int32) (D : mx_D) (v : Int32 × mx_D) (h : g_X_level F a1 D = some v) : ev X (d + 1) 120 (0, [some (.ref 0), some (.int a1)], [], D, E) (qR (some (.int v.1)) v.2 E) := by
  have hq : kq_m 120 = some kq_q120 := rfl
  unfold g_X_level at h
  refine gv_n hq 2 (S' := (2, [some (.ref 0), some (.int a1)], [.int a1, .ref 0], D, E)) rfl ?_
  refine gv_d hq rfl rfl rfl rfl rfl (gv_dd (by omega) (t_X_canAsk X (d - 1) (by omega) D E _ _ rfl)) (S' := (5, [some (.ref 0), some (.int a1)], [.int (g_X_canAsk D a1)], D, E)) rfl ?_
  refine gv_b hq rfl h 8 11 rfl rfl rfl (fun h => ?_) (fun h => ?_)
  · refine gv_n hq 1 (S' := (10, [some (.ref 0), some (.int a1)], [.int (-2 : Int32)], D, E)) rfl ?_
    cases h
    exact ev_ret hq rfl rfl ⟨rfl, rfl, rfl⟩
  · refine gv_n hq 2 (S' := (13, [some (.ref 0), some (.int a1)], [.int a1, .ref 0], D, E)) rfl ?_
    obtain ⟨r1, h1, h⟩ := Option.bind_eq_some_iff.mp h
    refine gv_d hq rfl rfl rfl rfl rfl (gv_dd (by omega) (t_X_isLevelIn X F (d - 1) (by omega) E _ _ _ h1)) (S' := (16, [some (.ref 0), some (.int a1)], [.int r1.1], r1.2, E)) rfl ?_
    refine gv_b hq rfl h 23 19 rfl rfl rfl (fun h => ?_) (fun h => ?_)
    · refine gv_n hq 1 (S' := (24, [some (.ref 0), some (.int a1)], [.int (nI 0)], r1.2, E)) rfl ?_
      cases h
      exact ev_ret hq rfl rfl ⟨rfl, rfl, rfl⟩
    · refine gv_n hq 2 (S' := (24, [some (.ref 0), some (.int a1)], [.int (nI 1)], r1.2, E)) rfl ?_
      cases h
      exact ev_ret hq rfl rfl ⟨rfl, rfl, rfl⟩
def b_M_unlevel_20 (F : Nat) (D : mx_D) (k20 : Int32 → Int32 → Int32 → Option (Int32)) (l1 : Int32) (l2 : Int32) (l3 : Int32) : Option (Int32) := (if (D 117 0) ≤ l3 then (some l2) else (Option.bind (g_M_inPew F D l3) (fun r2 => (Option.bind (g_M_spreadOf F D (r2 &&& l1)) (fun r3 => (k20 l1 (imx l2 r3) (l3 + (nI 1))))))))
set_option maxRecDepth 100000 in
set_option maxHeartbeats 4000000 in
theorem tb_M_unlevel_20 (X : ev_X) (F : Nat) (d : Nat) (hd : 2 ≤ d + 1) (D : mx_D) (E : mx_E) (k20 : Int32 → Int32 → Int32 → Option (Int32)) (K20 : ∀ (l1 : Int32) (l2 : Int32) (l3 : Int32) (v : Int32), k20 l1 l2 l3 = some v → ev X (d + 1) 241 (20, [some (.ref 116), some (.int l1), some (.int l2), some (.int l3)], [], D, E) (qR (some (.int v)) D E)) (l1 : Int32) (l2 : Int32) (l3 : Int32) (v : Int32) (h : b_M_unlevel_20 F D k20 l1 l2 l3 = some v) : ev X (d + 1) 241 (20, [some (.ref 116), some (.int l1), some (.int l2), some (.int l3)], [], D, E) (qR (some (.int v)) D E) := by
  have hq : kq_m 241 = some kq_q241 := rfl
  unfold b_M_unlevel_20 at h
  refine gv_n hq 5 (S' := (27, [some (.ref 116), some (.int l1), some (.int l2), some (.int l3)], [.int (D 117 0), .int l3], D, E)) rfl ?_
  refine gv_b hq rfl h 52 30 rfl rfl rfl (fun h => ?_) (fun h => ?_)
  · refine gv_n hq 1 (S' := (53, [some (.ref 116), some (.int l1), some (.int l2), some (.int l3)], [.int l2], D, E)) rfl ?_
    cases h
    exact ev_ret hq rfl rfl ⟨rfl, rfl, rfl⟩
  · refine gv_n hq 4 (S' := (34, [some (.ref 116), some (.int l1), some (.int l2), some (.int l3)], [.int l3, .ref 116, .ref 116, .int l2], D, E)) rfl ?_
    obtain ⟨r2, h1, h⟩ := Option.bind_eq_some_iff.mp h
    refine gv_d hq rfl rfl rfl rfl rfl (gv_dd (by omega) (t_M_inPew X F (d - 1) (by omega) D E _ _ h1)) (S' := (37, [some (.ref 116), some (.int l1), some (.int l2), some (.int l3)], [.int r2, .ref 116, .int l2], D, E)) rfl ?_
    refine gv_n hq 2 (S' := (39, [some (.ref 116), some (.int l1), some (.int l2), some (.int l3)], [.int (r2 &&& l1), .ref 116, .int l2], D, E)) rfl ?_
    obtain ⟨r3, h1, h⟩ := Option.bind_eq_some_iff.mp h
    refine gv_d hq rfl rfl rfl rfl rfl (gv_dd (by omega) (t_M_spreadOf X F (d - 1) (by omega) D E _ _ h1)) (S' := (42, [some (.ref 116), some (.int l1), some (.int l2), some (.int l3)], [.int r3, .int l2], D, E)) rfl ?_
    refine gv_n hq 4 (S' := (20, [some (.ref 116), some (.int l1), some (.int (imx l2 r3)), some (.int (l3 + (nI 1)))], [], D, E)) rfl ?_
    exact gv_w (K20 _ _ _ _ h) (And.intro rfl (And.intro rfl (And.intro rfl (And.intro rfl trivial))))
def g_M_unlevel_20 (F : Nat) (D : mx_D) : Nat → Int32 → Int32 → Int32 → Option (Int32) := it (fun k20 => b_M_unlevel_20 F D k20) (fun _ _ _ => none)
set_option maxRecDepth 100000 in
set_option maxHeartbeats 4000000 in
theorem t_M_unlevel_20 (X : ev_X) (F : Nat) (d : Nat) (hd : 2 ≤ d + 1) (D : mx_D) (E : mx_E)  : ∀ (n : Nat) (l1 : Int32) (l2 : Int32) (l3 : Int32) (v : Int32), g_M_unlevel_20 F D n l1 l2 l3 = some v → ev X (d + 1) 241 (20, [some (.ref 116), some (.int l1), some (.int l2), some (.int l3)], [], D, E) (qR (some (.int v)) D E) := by
  intro n
  induction n with
  | zero => intro l1 l2 l3 v h; cases h
  | succ n ih => intro l1 l2 l3 v h; exact tb_M_unlevel_20 X F d hd D E (g_M_unlevel_20 F D n) ih l1 l2 l3 v h
def g_M_unlevel (F : Nat) (D : mx_D) (a1 : Int32) : Option (Int32) := (if (D 117 3) = (nI 1) then (Option.bind (g_M_spreadOf F D a1) (fun r1 => (some r1))) else (g_M_unlevel_20 F D F a1 (nI 0) (nI 0)))
set_option maxRecDepth 100000 in
set_option maxHeartbeats 4000000 in
theorem t_M_unlevel (X : ev_X) (F : Nat) (d : Nat) (hd : 2 ≤ d + 1) (D : mx_D) (E : mx_E) (a1 : Int32) (v : Int32) (h : g_M_unlevel F D a1 = some v) : ev X (d + 1) 241 (0, [some (.ref 116), some (.int a1), none, none], [], D, E) (qR (some (.int v)) D E) := by
  have hq : kq_m 241 = some kq_q241 := rfl
  unfold g_M_unlevel at h
  refine gv_n hq 5 (S' := (7, [some (.ref 116), some (.int a1), none, none], [.int (nI 1), .int (D 117 3)], D, E)) rfl ?_
  refine gv_b hq rfl h 10 16 rfl rfl rfl (fun h => ?_) (fun h => ?_)
  · refine gv_n hq 2 (S' := (12, [some (.ref 116), some (.int a1), none, none], [.int a1, .ref 116], D, E)) rfl ?_
    obtain ⟨r1, h1, h⟩ := Option.bind_eq_some_iff.mp h
    refine gv_d hq rfl rfl rfl rfl rfl (gv_dd (by omega) (t_M_spreadOf X F (d - 1) (by omega) D E _ _ h1)) (S' := (15, [some (.ref 116), some (.int a1), none, none], [.int r1], D, E)) rfl ?_
    cases h
    exact ev_ret hq rfl rfl ⟨rfl, rfl, rfl⟩
  · refine gv_n hq 4 (S' := (20, [some (.ref 116), some (.int a1), some (.int (nI 0)), some (.int (nI 0))], [], D, E)) rfl ?_
    exact gv_w (t_M_unlevel_20 X F d hd D E F _ _ _ _ h) (And.intro rfl (And.intro rfl (And.intro rfl (And.intro rfl trivial))))
def g_M_isLevel (F : Nat) (a1 : Int32) (D : mx_D) : Option (Int32 × mx_D) := (Option.bind (g_M_lay F a1 D) (fun r1 => (Option.bind (g_M_sitters F r1) (fun r2 => (Option.bind (g_M_unlevel F r1 r2) (fun r3 => (if (r1 117 2) < r3 then (some ((nI 0), r1)) else (some ((nI 1), r1)))))))))
set_option maxRecDepth 100000 in
set_option maxHeartbeats 4000000 in
theorem t_M_isLevel (X : ev_X) (F : Nat) (d : Nat) (hd : 5 ≤ d + 1) (E : mx_E) (a1 : Int32) (D : mx_D) (v : Int32 × mx_D) (h : g_M_isLevel F a1 D = some v) : ev X (d + 1) 240 (0, [some (.ref 116), some (.int a1)], [], D, E) (qR (some (.int v.1)) v.2 E) := by
  have hq : kq_m 240 = some kq_q240 := rfl
  unfold g_M_isLevel at h
  refine gv_n hq 2 (S' := (2, [some (.ref 116), some (.int a1)], [.int a1, .ref 116], D, E)) rfl ?_
  obtain ⟨r1, h1, h⟩ := Option.bind_eq_some_iff.mp h
  refine gv_d hq rfl rfl rfl rfl rfl (gv_dd (by omega) (t_M_lay X F (d - 1) (by omega) E _ _ _ h1)) (S' := (5, [some (.ref 116), some (.int a1)], [], r1, E)) rfl ?_
  refine gv_n hq 2 (S' := (7, [some (.ref 116), some (.int a1)], [.ref 116, .ref 116], r1, E)) rfl ?_
  obtain ⟨r2, h1, h⟩ := Option.bind_eq_some_iff.mp h
  refine gv_d hq rfl rfl rfl rfl rfl (gv_dd (by omega) (t_M_sitters X F (d - 1) (by omega) r1 E _ h1)) (S' := (10, [some (.ref 116), some (.int a1)], [.int r2, .ref 116], r1, E)) rfl ?_
  obtain ⟨r3, h1, h⟩ := Option.bind_eq_some_iff.mp h
  refine gv_d hq rfl rfl rfl rfl rfl (gv_dd (by omega) (t_M_unlevel X F (d - 1) (by omega) r1 E _ _ h1)) (S' := (13, [some (.ref 116), some (.int a1)], [.int r3], r1, E)) rfl ?_
  refine gv_n hq 4 (S' := (19, [some (.ref 116), some (.int a1)], [.int (r1 117 2), .int r3], r1, E)) rfl ?_
  refine gv_b hq rfl h 26 22 rfl rfl rfl (fun h => ?_) (fun h => ?_)
  · refine gv_n hq 1 (S' := (27, [some (.ref 116), some (.int a1)], [.int (nI 0)], r1, E)) rfl ?_
    cases h
    exact ev_ret hq rfl rfl ⟨rfl, rfl, rfl⟩
  · refine gv_n hq 2 (S' := (27, [some (.ref 116), some (.int a1)], [.int (nI 1)], r1, E)) rfl ?_
    cases h
    exact ev_ret hq rfl rfl ⟨rfl, rfl, rfl⟩
def g_M_level (F : Nat) (a1 : Int32) (D : mx_D) : Option (Int32 × mx_D) := (if (g_M_isYear D a1) = 0 then (some ((-2 : Int32), D)) else (Option.bind (g_M_isLevel F a1 D) (fun r1 => (if r1.1 = 0 then (some ((nI 0), r1.2)) else (some ((nI 1), r1.2))))))
set_option maxRecDepth 100000 in
set_option maxHeartbeats 4000000 in
theorem t_M_level (X : ev_X) (F : Nat) (d : Nat) (hd : 6 ≤ d + 1) (E : mx_E) (a1 : Int32) (D : mx_D) (v : Int32 × mx_D) (h : g_M_level F a1 D = some v) : ev X (d + 1) 239 (0, [some (.ref 116), some (.int a1)], [], D, E) (qR (some (.int v.1)) v.2 E) := by
  have hq : kq_m 239 = some kq_q239 := rfl
  unfold g_M_level at h
  refine gv_n hq 2 (S' := (2, [some (.ref 116), some (.int a1)], [.int a1, .ref 116], D, E)) rfl ?_
  refine gv_d hq rfl rfl rfl rfl rfl (gv_dd (by omega) (t_M_isYear X (d - 1) (by omega) D E _ _ rfl)) (S' := (5, [some (.ref 116), some (.int a1)], [.int (g_M_isYear D a1)], D, E)) rfl ?_
  refine gv_b hq rfl h 8 13 rfl rfl rfl (fun h => ?_) (fun h => ?_)
  · refine gv_n hq 2 (S' := (26, [some (.ref 116), some (.int a1)], [.int (-2 : Int32)], D, E)) rfl ?_
    cases h
    exact ev_ret hq rfl rfl ⟨rfl, rfl, rfl⟩
  · refine gv_n hq 2 (S' := (15, [some (.ref 116), some (.int a1)], [.int a1, .ref 116], D, E)) rfl ?_
    obtain ⟨r1, h1, h⟩ := Option.bind_eq_some_iff.mp h
    refine gv_d hq rfl rfl rfl rfl rfl (gv_dd (by omega) (t_M_isLevel X F (d - 1) (by omega) E _ _ _ h1)) (S' := (18, [some (.ref 116), some (.int a1)], [.int r1.1], r1.2, E)) rfl ?_
    refine gv_b hq rfl h 25 21 rfl rfl rfl (fun h => ?_) (fun h => ?_)
    · refine gv_n hq 1 (S' := (26, [some (.ref 116), some (.int a1)], [.int (nI 0)], r1.2, E)) rfl ?_
      cases h
      exact ev_ret hq rfl rfl ⟨rfl, rfl, rfl⟩
    · refine gv_n hq 2 (S' := (26, [some (.ref 116), some (.int a1)], [.int (nI 1)], r1.2, E)) rfl ?_
      cases h
      exact ev_ret hq rfl rfl ⟨rfl, rfl, rfl⟩
def b_X_first_13 (F : Nat) (k13 : Int32 → mx_D → Option (Int32 × mx_D)) (l2 : Int32) (D : mx_D) : Option (Int32 × mx_D) := (if (nI 30) < l2 then (some ((-1 : Int32), D)) else (Option.bind (g_X_isLevelIn F l2 D) (fun r1 => (if r1.1 = 0 then (some (l2, r1.2)) else (k13 (l2 + (nI 1)) r1.2)))))
set_option maxRecDepth 100000 in
set_option maxHeartbeats 4000000 in
theorem tb_X_first_13 (X : ev_X) (F : Nat) (d : Nat) (hd : 6 ≤ d + 1) (E : mx_E) (k13 : Int32 → mx_D → Option (Int32 × mx_D)) (K13 : ∀ (l2 : Int32) (D : mx_D) (v : Int32 × mx_D), k13 l2 D = some v → ev X (d + 1) 123 (13, [some (.ref 0), none, some (.int l2)], [], D, E) (qR (some (.int v.1)) v.2 E)) (l2 : Int32) (D : mx_D) (v : Int32 × mx_D) (h : b_X_first_13 F k13 l2 D = some v) : ev X (d + 1) 123 (13, [some (.ref 0), none, some (.int l2)], [], D, E) (qR (some (.int v.1)) v.2 E) := by
  have hq : kq_m 123 = some kq_q123 := rfl
  unfold b_X_first_13 at h
  refine gv_n hq 2 (S' := (16, [some (.ref 0), none, some (.int l2)], [.int (nI 30), .int l2], D, E)) rfl ?_
  refine gv_b hq rfl h 35 19 rfl rfl rfl (fun h => ?_) (fun h => ?_)
  · refine gv_n hq 1 (S' := (36, [some (.ref 0), none, some (.int l2)], [.int (-1 : Int32)], D, E)) rfl ?_
    cases h
    exact ev_ret hq rfl rfl ⟨rfl, rfl, rfl⟩
  · refine gv_n hq 2 (S' := (21, [some (.ref 0), none, some (.int l2)], [.int l2, .ref 0], D, E)) rfl ?_
    obtain ⟨r1, h1, h⟩ := Option.bind_eq_some_iff.mp h
    refine gv_d hq rfl rfl rfl rfl rfl (gv_dd (by omega) (t_X_isLevelIn X F (d - 1) (by omega) E _ _ _ h1)) (S' := (24, [some (.ref 0), none, some (.int l2)], [.int r1.1], r1.2, E)) rfl ?_
    refine gv_b hq rfl h 27 29 rfl rfl rfl (fun h => ?_) (fun h => ?_)
    · refine gv_n hq 1 (S' := (28, [some (.ref 0), none, some (.int l2)], [.int l2], r1.2, E)) rfl ?_
      cases h
      exact ev_ret hq rfl rfl ⟨rfl, rfl, rfl⟩
    · refine gv_n hq 2 (S' := (13, [some (.ref 0), none, some (.int (l2 + (nI 1)))], [], r1.2, E)) rfl ?_
      exact gv_w (K13 _ _ _ h) (And.intro rfl (And.intro rfl trivial))
def g_X_first_13 (F : Nat) : Nat → Int32 → mx_D → Option (Int32 × mx_D) := it (fun k13 => b_X_first_13 F k13) (fun _ _ => none)
set_option maxRecDepth 100000 in
set_option maxHeartbeats 4000000 in
theorem t_X_first_13 (X : ev_X) (F : Nat) (d : Nat) (hd : 6 ≤ d + 1) (E : mx_E)  : ∀ (n : Nat) (l2 : Int32) (D : mx_D) (v : Int32 × mx_D), g_X_first_13 F n l2 D = some v → ev X (d + 1) 123 (13, [some (.ref 0), none, some (.int l2)], [], D, E) (qR (some (.int v.1)) v.2 E) := by
  intro n
  induction n with
  | zero => intro l2 D v h; cases h
  | succ n ih => intro l2 D v h; exact tb_X_first_13 X F d hd E (g_X_first_13 F n) ih l2 D v h
def g_X_first (F : Nat) (a1 : Int32) (D : mx_D) : Option (Int32 × mx_D) := (if (g_X_canAsk D a1) = 0 then (some ((-2 : Int32), D)) else (g_X_first_13 F F a1 D))
set_option maxRecDepth 100000 in
set_option maxHeartbeats 4000000 in
theorem t_X_first (X : ev_X) (F : Nat) (d : Nat) (hd : 6 ≤ d + 1) (E : mx_E) (a1 : Int32) (D : mx_D) (v : Int32 × mx_D) (h : g_X_first F a1 D = some v) : ev X (d + 1) 123 (0, [some (.ref 0), some (.int a1), none], [], D, E) (qR (some (.int v.1)) v.2 E) := by
  have hq : kq_m 123 = some kq_q123 := rfl
  unfold g_X_first at h
  refine gv_n hq 2 (S' := (2, [some (.ref 0), some (.int a1), none], [.int a1, .ref 0], D, E)) rfl ?_
  refine gv_d hq rfl rfl rfl rfl rfl (gv_dd (by omega) (t_X_canAsk X (d - 1) (by omega) D E _ _ rfl)) (S' := (5, [some (.ref 0), some (.int a1), none], [.int (g_X_canAsk D a1)], D, E)) rfl ?_
  refine gv_b hq rfl h 8 11 rfl rfl rfl (fun h => ?_) (fun h => ?_)
  · refine gv_n hq 1 (S' := (10, [some (.ref 0), some (.int a1), none], [.int (-2 : Int32)], D, E)) rfl ?_
    cases h
    exact ev_ret hq rfl rfl ⟨rfl, rfl, rfl⟩
  · refine gv_n hq 2 (S' := (13, [some (.ref 0), some (.int a1), some (.int a1)], [], D, E)) rfl ?_
    exact gv_w (t_X_first_13 X F d hd E F _ _ _ h) (And.intro rfl (And.intro rfl trivial))
def b_M_first_13 (F : Nat) (k13 : Int32 → mx_D → Option (Int32 × mx_D)) (l2 : Int32) (D : mx_D) : Option (Int32 × mx_D) := (if (nI 30) < l2 then (some ((-1 : Int32), D)) else (Option.bind (g_M_isLevel F l2 D) (fun r1 => (if r1.1 = 0 then (some (l2, r1.2)) else (k13 (l2 + (nI 1)) r1.2)))))
set_option maxRecDepth 100000 in
set_option maxHeartbeats 4000000 in
theorem tb_M_first_13 (X : ev_X) (F : Nat) (d : Nat) (hd : 6 ≤ d + 1) (E : mx_E) (k13 : Int32 → mx_D → Option (Int32 × mx_D)) (K13 : ∀ (l2 : Int32) (D : mx_D) (v : Int32 × mx_D), k13 l2 D = some v → ev X (d + 1) 242 (13, [some (.ref 116), none, some (.int l2)], [], D, E) (qR (some (.int v.1)) v.2 E)) (l2 : Int32) (D : mx_D) (v : Int32 × mx_D) (h : b_M_first_13 F k13 l2 D = some v) : ev X (d + 1) 242 (13, [some (.ref 116), none, some (.int l2)], [], D, E) (qR (some (.int v.1)) v.2 E) := by
  have hq : kq_m 242 = some kq_q242 := rfl
  unfold b_M_first_13 at h
  refine gv_n hq 2 (S' := (16, [some (.ref 116), none, some (.int l2)], [.int (nI 30), .int l2], D, E)) rfl ?_
  refine gv_b hq rfl h 35 19 rfl rfl rfl (fun h => ?_) (fun h => ?_)
  · refine gv_n hq 1 (S' := (36, [some (.ref 116), none, some (.int l2)], [.int (-1 : Int32)], D, E)) rfl ?_
    cases h
    exact ev_ret hq rfl rfl ⟨rfl, rfl, rfl⟩
  · refine gv_n hq 2 (S' := (21, [some (.ref 116), none, some (.int l2)], [.int l2, .ref 116], D, E)) rfl ?_
    obtain ⟨r1, h1, h⟩ := Option.bind_eq_some_iff.mp h
    refine gv_d hq rfl rfl rfl rfl rfl (gv_dd (by omega) (t_M_isLevel X F (d - 1) (by omega) E _ _ _ h1)) (S' := (24, [some (.ref 116), none, some (.int l2)], [.int r1.1], r1.2, E)) rfl ?_
    refine gv_b hq rfl h 27 29 rfl rfl rfl (fun h => ?_) (fun h => ?_)
    · refine gv_n hq 1 (S' := (28, [some (.ref 116), none, some (.int l2)], [.int l2], r1.2, E)) rfl ?_
      cases h
      exact ev_ret hq rfl rfl ⟨rfl, rfl, rfl⟩
    · refine gv_n hq 2 (S' := (13, [some (.ref 116), none, some (.int (l2 + (nI 1)))], [], r1.2, E)) rfl ?_
      exact gv_w (K13 _ _ _ h) (And.intro rfl (And.intro rfl trivial))
def g_M_first_13 (F : Nat) : Nat → Int32 → mx_D → Option (Int32 × mx_D) := it (fun k13 => b_M_first_13 F k13) (fun _ _ => none)
set_option maxRecDepth 100000 in
set_option maxHeartbeats 4000000 in
theorem t_M_first_13 (X : ev_X) (F : Nat) (d : Nat) (hd : 6 ≤ d + 1) (E : mx_E)  : ∀ (n : Nat) (l2 : Int32) (D : mx_D) (v : Int32 × mx_D), g_M_first_13 F n l2 D = some v → ev X (d + 1) 242 (13, [some (.ref 116), none, some (.int l2)], [], D, E) (qR (some (.int v.1)) v.2 E) := by
  intro n
  induction n with
  | zero => intro l2 D v h; cases h
  | succ n ih => intro l2 D v h; exact tb_M_first_13 X F d hd E (g_M_first_13 F n) ih l2 D v h
def g_M_first (F : Nat) (a1 : Int32) (D : mx_D) : Option (Int32 × mx_D) := (if (g_M_isYear D a1) = 0 then (some ((-2 : Int32), D)) else (g_M_first_13 F F a1 D))
set_option maxRecDepth 100000 in
set_option maxHeartbeats 4000000 in
theorem t_M_first (X : ev_X) (F : Nat) (d : Nat) (hd : 6 ≤ d + 1) (E : mx_E) (a1 : Int32) (D : mx_D) (v : Int32 × mx_D) (h : g_M_first F a1 D = some v) : ev X (d + 1) 242 (0, [some (.ref 116), some (.int a1), none], [], D, E) (qR (some (.int v.1)) v.2 E) := by
  have hq : kq_m 242 = some kq_q242 := rfl
  unfold g_M_first at h
  refine gv_n hq 2 (S' := (2, [some (.ref 116), some (.int a1), none], [.int a1, .ref 116], D, E)) rfl ?_
  refine gv_d hq rfl rfl rfl rfl rfl (gv_dd (by omega) (t_M_isYear X (d - 1) (by omega) D E _ _ rfl)) (S' := (5, [some (.ref 116), some (.int a1), none], [.int (g_M_isYear D a1)], D, E)) rfl ?_
  refine gv_b hq rfl h 8 11 rfl rfl rfl (fun h => ?_) (fun h => ?_)
  · refine gv_n hq 1 (S' := (10, [some (.ref 116), some (.int a1), none], [.int (-2 : Int32)], D, E)) rfl ?_
    cases h
    exact ev_ret hq rfl rfl ⟨rfl, rfl, rfl⟩
  · refine gv_n hq 2 (S' := (13, [some (.ref 116), some (.int a1), some (.int a1)], [], D, E)) rfl ?_
    exact gv_w (t_M_first_13 X F d hd E F _ _ _ h) (And.intro rfl (And.intro rfl trivial))
def g_Heights_isIn (D : mx_D) (a1 : Int32) : Int32 := (if (((D 34 2) >>> (a1 &&& 31)) &&& (nI 1)) = 0 then (nI 0) else (nI 1))
set_option maxRecDepth 100000 in
set_option maxHeartbeats 4000000 in
theorem t_Heights_isIn (X : ev_X) (d : Nat) (D : mx_D) (E : mx_E) (a1 : Int32) (v : Int32) (h : g_Heights_isIn D a1 = v) : ev X d 51 (0, [some (.ref 34), some (.int a1)], [], D, E) (qR (some (.int v)) D E) := by
  have hq : kq_m 51 = some kq_q51 := rfl
  unfold g_Heights_isIn at h
  refine gv_n hq 6 (S' := (8, [some (.ref 34), some (.int a1)], [.int (((D 34 2) >>> (a1 &&& 31)) &&& (nI 1))], D, E)) rfl ?_
  refine gv_b hq rfl h 15 11 rfl rfl rfl (fun h => ?_) (fun h => ?_)
  · refine gv_n hq 1 (S' := (16, [some (.ref 34), some (.int a1)], [.int (nI 0)], D, E)) rfl ?_
    subst h
    exact ev_ret hq rfl rfl ⟨rfl, rfl, rfl⟩
  · refine gv_n hq 2 (S' := (16, [some (.ref 34), some (.int a1)], [.int (nI 1)], D, E)) rfl ?_
    subst h
    exact ev_ret hq rfl rfl ⟨rfl, rfl, rfl⟩
theorem z_Heights_isIn (D : mx_D) (a1 : Int32) : g_Heights_isIn D a1 = 0 ∨ g_Heights_isIn D a1 = 1 := by
  unfold g_Heights_isIn
  (repeat' split) <;> first | exact Or.inl rfl | exact Or.inr rfl
def g_X_standsOut (D : mx_D) (a1 : Int32) (a2 : Int32) (a3 : Int32) : Option (Int32) := (rk 8 a1 (rk 8 a2 (if a3 = 0 then (if ((D 35 (a1).toNatClampNeg) - (D 35 (a2).toNatClampNeg)) ≤ 0 then (some (nI 0)) else (some (nI 1))) else (if 0 ≤ ((D 35 (a1).toNatClampNeg) - (D 35 (a2).toNatClampNeg)) then (some (nI 0)) else (some (nI 1))))))
set_option maxRecDepth 100000 in
set_option maxHeartbeats 4000000 in
theorem t_X_standsOut (X : ev_X) (d : Nat) (D : mx_D) (E : mx_E) (a1 : Int32) (a2 : Int32) (a3 : Int32) (v : Int32) (h : g_X_standsOut D a1 a2 a3 = some v) : ev X d 125 (0, [some (.ref 0), some (.int a1), some (.int a2), some (.int a3), none], [], D, E) (qR (some (.int v)) D E) := by
  have hq : kq_m 125 = some kq_q125 := rfl
  unfold g_X_standsOut at h
  refine gv_n hq 4 (S' := (8, [some (.ref 0), some (.int a1), some (.int a2), some (.int a3), none], [.int a1, .ref 35], D, E)) rfl ?_
  refine gv_ia hq rfl rfl rfl h 9 rfl (fun h => ?_)
  refine gv_n hq 4 (S' := (17, [some (.ref 0), some (.int a1), some (.int a2), some (.int a3), none], [.int a2, .ref 35, .int (D 35 (a1).toNatClampNeg)], D, E)) rfl ?_
  refine gv_ia hq rfl rfl rfl h 18 rfl (fun h => ?_)
  refine gv_n hq 3 (S' := (22, [some (.ref 0), some (.int a1), some (.int a2), some (.int a3), some (.int ((D 35 (a1).toNatClampNeg) - (D 35 (a2).toNatClampNeg)))], [.int a3], D, E)) rfl ?_
  refine gv_b hq rfl h 25 38 rfl rfl rfl (fun h => ?_) (fun h => ?_)
  · refine gv_n hq 1 (S' := (27, [some (.ref 0), some (.int a1), some (.int a2), some (.int a3), some (.int ((D 35 (a1).toNatClampNeg) - (D 35 (a2).toNatClampNeg)))], [.int ((D 35 (a1).toNatClampNeg) - (D 35 (a2).toNatClampNeg))], D, E)) rfl ?_
    refine gv_b hq rfl h 34 30 rfl rfl rfl (fun h => ?_) (fun h => ?_)
    · refine gv_n hq 2 (S' := (48, [some (.ref 0), some (.int a1), some (.int a2), some (.int a3), some (.int ((D 35 (a1).toNatClampNeg) - (D 35 (a2).toNatClampNeg)))], [.int (nI 0)], D, E)) rfl ?_
      cases h
      exact ev_ret hq rfl rfl ⟨rfl, rfl, rfl⟩
    · refine gv_n hq 2 (S' := (48, [some (.ref 0), some (.int a1), some (.int a2), some (.int a3), some (.int ((D 35 (a1).toNatClampNeg) - (D 35 (a2).toNatClampNeg)))], [.int (nI 1)], D, E)) rfl ?_
      cases h
      exact ev_ret hq rfl rfl ⟨rfl, rfl, rfl⟩
  · refine gv_n hq 1 (S' := (40, [some (.ref 0), some (.int a1), some (.int a2), some (.int a3), some (.int ((D 35 (a1).toNatClampNeg) - (D 35 (a2).toNatClampNeg)))], [.int ((D 35 (a1).toNatClampNeg) - (D 35 (a2).toNatClampNeg))], D, E)) rfl ?_
    refine gv_b hq rfl h 47 43 rfl rfl rfl (fun h => ?_) (fun h => ?_)
    · refine gv_n hq 1 (S' := (48, [some (.ref 0), some (.int a1), some (.int a2), some (.int a3), some (.int ((D 35 (a1).toNatClampNeg) - (D 35 (a2).toNatClampNeg)))], [.int (nI 0)], D, E)) rfl ?_
      cases h
      exact ev_ret hq rfl rfl ⟨rfl, rfl, rfl⟩
    · refine gv_n hq 2 (S' := (48, [some (.ref 0), some (.int a1), some (.int a2), some (.int a3), some (.int ((D 35 (a1).toNatClampNeg) - (D 35 (a2).toNatClampNeg)))], [.int (nI 1)], D, E)) rfl ?_
      cases h
      exact ev_ret hq rfl rfl ⟨rfl, rfl, rfl⟩
def b_X_out_37 (F : Nat) (k37 : Int32 → Int32 → Int32 → mx_D → Option (Int32 × mx_D)) (l2 : Int32) (l3 : Int32) (l4 : Int32) (D : mx_D) : Option (Int32 × mx_D) := (if (D 24 6) ≤ l4 then (some (l3, D)) else (if (g_Heights_isIn D l4) = 0 then (k37 l2 l3 (l4 + (nI 1)) D) else (if l3 = (-1 : Int32) then (k37 l2 l4 (l4 + (nI 1)) D) else (Option.bind (g_X_standsOut D l4 l3 l2) (fun r2 => (if r2 = 0 then (k37 l2 l3 (l4 + (nI 1)) D) else (k37 l2 l4 (l4 + (nI 1)) D)))))))
set_option maxRecDepth 100000 in
set_option maxHeartbeats 4000000 in
theorem tb_X_out_37 (X : ev_X) (F : Nat) (d : Nat) (hd : 5 ≤ d + 1) (E : mx_E) (k37 : Int32 → Int32 → Int32 → mx_D → Option (Int32 × mx_D)) (K37 : ∀ (l2 : Int32) (l3 : Int32) (l4 : Int32) (D : mx_D) (v : Int32 × mx_D), k37 l2 l3 l4 D = some v → ev X (d + 1) 124 (37, [some (.ref 0), none, some (.int l2), some (.int l3), some (.int l4)], [], D, E) (qR (some (.int v.1)) v.2 E)) (l2 : Int32) (l3 : Int32) (l4 : Int32) (D : mx_D) (v : Int32 × mx_D) (h : b_X_out_37 F k37 l2 l3 l4 D = some v) : ev X (d + 1) 124 (37, [some (.ref 0), none, some (.int l2), some (.int l3), some (.int l4)], [], D, E) (qR (some (.int v.1)) v.2 E) := by
  have hq : kq_m 124 = some kq_q124 := rfl
  unfold b_X_out_37 at h
  refine gv_n hq 5 (S' := (49, [some (.ref 0), none, some (.int l2), some (.int l3), some (.int l4)], [.int (D 24 6), .int l4], D, E)) rfl ?_
  refine gv_b hq rfl h 89 52 rfl rfl rfl (fun h => ?_) (fun h => ?_)
  · refine gv_n hq 1 (S' := (90, [some (.ref 0), none, some (.int l2), some (.int l3), some (.int l4)], [.int l3], D, E)) rfl ?_
    cases h
    exact ev_ret hq rfl rfl ⟨rfl, rfl, rfl⟩
  · refine gv_n hq 3 (S' := (58, [some (.ref 0), none, some (.int l2), some (.int l3), some (.int l4)], [.int l4, .ref 34], D, E)) rfl ?_
    refine gv_d hq rfl rfl rfl rfl rfl ((t_Heights_isIn X d D E _ _ rfl)) (S' := (61, [some (.ref 0), none, some (.int l2), some (.int l3), some (.int l4)], [.int (g_Heights_isIn D l4)], D, E)) rfl ?_
    refine gv_b hq rfl h 83 64 rfl rfl rfl (fun h => ?_) (fun h => ?_)
    · refine gv_n hq 2 (S' := (37, [some (.ref 0), none, some (.int l2), some (.int l3), some (.int (l4 + (nI 1)))], [], D, E)) rfl ?_
      exact gv_w (K37 _ _ _ _ _ h) (And.intro rfl (And.intro rfl (And.intro rfl (And.intro rfl trivial))))
    · refine gv_n hq 2 (S' := (66, [some (.ref 0), none, some (.int l2), some (.int l3), some (.int l4)], [.int (-1 : Int32), .int l3], D, E)) rfl ?_
      refine gv_b hq rfl h 80 69 rfl rfl rfl (fun h => ?_) (fun h => ?_)
      · refine gv_n hq 4 (S' := (37, [some (.ref 0), none, some (.int l2), some (.int l4), some (.int (l4 + (nI 1)))], [], D, E)) rfl ?_
        exact gv_w (K37 _ _ _ _ _ h) (And.intro rfl (And.intro rfl (And.intro rfl (And.intro rfl trivial))))
      · refine gv_n hq 4 (S' := (74, [some (.ref 0), none, some (.int l2), some (.int l3), some (.int l4)], [.int l2, .int l3, .int l4, .ref 0], D, E)) rfl ?_
        obtain ⟨r2, h1, h⟩ := Option.bind_eq_some_iff.mp h
        refine gv_d hq rfl rfl rfl rfl rfl ((t_X_standsOut X d D E _ _ _ _ h1)) (S' := (77, [some (.ref 0), none, some (.int l2), some (.int l3), some (.int l4)], [.int r2], D, E)) rfl ?_
        refine gv_b hq rfl h 83 80 rfl rfl rfl (fun h => ?_) (fun h => ?_)
        · refine gv_n hq 2 (S' := (37, [some (.ref 0), none, some (.int l2), some (.int l3), some (.int (l4 + (nI 1)))], [], D, E)) rfl ?_
          exact gv_w (K37 _ _ _ _ _ h) (And.intro rfl (And.intro rfl (And.intro rfl (And.intro rfl trivial))))
        · refine gv_n hq 4 (S' := (37, [some (.ref 0), none, some (.int l2), some (.int l4), some (.int (l4 + (nI 1)))], [], D, E)) rfl ?_
          exact gv_w (K37 _ _ _ _ _ h) (And.intro rfl (And.intro rfl (And.intro rfl (And.intro rfl trivial))))
def g_X_out_37 (F : Nat) : Nat → Int32 → Int32 → Int32 → mx_D → Option (Int32 × mx_D) := it (fun k37 => b_X_out_37 F k37) (fun _ _ _ _ => none)
set_option maxRecDepth 100000 in
set_option maxHeartbeats 4000000 in
theorem t_X_out_37 (X : ev_X) (F : Nat) (d : Nat) (hd : 5 ≤ d + 1) (E : mx_E)  : ∀ (n : Nat) (l2 : Int32) (l3 : Int32) (l4 : Int32) (D : mx_D) (v : Int32 × mx_D), g_X_out_37 F n l2 l3 l4 D = some v → ev X (d + 1) 124 (37, [some (.ref 0), none, some (.int l2), some (.int l3), some (.int l4)], [], D, E) (qR (some (.int v.1)) v.2 E) := by
  intro n
  induction n with
  | zero => intro l2 l3 l4 D v h; cases h
  | succ n ih => intro l2 l3 l4 D v h; exact tb_X_out_37 X F d hd E (g_X_out_37 F n) ih l2 l3 l4 D v h
def g_X_out (F : Nat) (a1 : Int32) (a2 : Int32) (D : mx_D) : Option (Int32 × mx_D) := (if (g_X_canAsk D a1) = 0 then (some ((-2 : Int32), D)) else (if a2 < 0 then (some ((-2 : Int32), D)) else (if a2 ≤ (nI 1) then (Option.bind (g_Heights_take F a1 D) (fun r1 => (g_X_out_37 F F a2 (-1 : Int32) (nI 0) r1))) else (some ((-2 : Int32), D)))))
set_option maxRecDepth 100000 in
set_option maxHeartbeats 4000000 in
theorem t_X_out (X : ev_X) (F : Nat) (d : Nat) (hd : 5 ≤ d + 1) (E : mx_E) (a1 : Int32) (a2 : Int32) (D : mx_D) (v : Int32 × mx_D) (h : g_X_out F a1 a2 D = some v) : ev X (d + 1) 124 (0, [some (.ref 0), some (.int a1), some (.int a2), none, none], [], D, E) (qR (some (.int v.1)) v.2 E) := by
  have hq : kq_m 124 = some kq_q124 := rfl
  unfold g_X_out at h
  refine gv_n hq 2 (S' := (2, [some (.ref 0), some (.int a1), some (.int a2), none, none], [.int a1, .ref 0], D, E)) rfl ?_
  refine gv_d hq rfl rfl rfl rfl rfl (gv_dd (by omega) (t_X_canAsk X (d - 1) (by omega) D E _ _ rfl)) (S' := (5, [some (.ref 0), some (.int a1), some (.int a2), none, none], [.int (g_X_canAsk D a1)], D, E)) rfl ?_
  refine gv_b hq rfl h 17 8 rfl rfl rfl (fun h => ?_) (fun h => ?_)
  · refine gv_n hq 1 (S' := (19, [some (.ref 0), some (.int a1), some (.int a2), none, none], [.int (-2 : Int32)], D, E)) rfl ?_
    cases h
    exact ev_ret hq rfl rfl ⟨rfl, rfl, rfl⟩
  · refine gv_n hq 1 (S' := (9, [some (.ref 0), some (.int a1), some (.int a2), none, none], [.int a2], D, E)) rfl ?_
    refine gv_b hq rfl h 17 12 rfl rfl rfl (fun h => ?_) (fun h => ?_)
    · refine gv_n hq 1 (S' := (19, [some (.ref 0), some (.int a1), some (.int a2), none, none], [.int (-2 : Int32)], D, E)) rfl ?_
      cases h
      exact ev_ret hq rfl rfl ⟨rfl, rfl, rfl⟩
    · refine gv_n hq 2 (S' := (14, [some (.ref 0), some (.int a1), some (.int a2), none, none], [.int (nI 1), .int a2], D, E)) rfl ?_
      refine gv_b hq rfl h 20 17 rfl rfl rfl (fun h => ?_) (fun h => ?_)
      · refine gv_n hq 5 (S' := (29, [some (.ref 0), some (.int a1), some (.int a2), none, none], [.int a1, .ref 19, .ref 34], D, E)) rfl ?_
        obtain ⟨r1, h1, h⟩ := Option.bind_eq_some_iff.mp h
        refine gv_d hq rfl rfl rfl rfl rfl (gv_dd (by omega) (t_Heights_take X F (d - 1) (by omega) E _ _ _ h1)) (S' := (32, [some (.ref 0), some (.int a1), some (.int a2), none, none], [], r1, E)) rfl ?_
        refine gv_n hq 4 (S' := (37, [some (.ref 0), some (.int a1), some (.int a2), some (.int (-1 : Int32)), some (.int (nI 0))], [], r1, E)) rfl ?_
        exact gv_w (t_X_out_37 X F d hd E F _ _ _ _ _ h) (And.intro rfl (And.intro rfl (And.intro rfl (And.intro rfl trivial))))
      · refine gv_n hq 1 (S' := (19, [some (.ref 0), some (.int a1), some (.int a2), none, none], [.int (-2 : Int32)], D, E)) rfl ?_
        cases h
        exact ev_ret hq rfl rfl ⟨rfl, rfl, rfl⟩
def b_M_out_31 (F : Nat) (k31 : Int32 → Int32 → Int32 → mx_D → Option (Int32 × mx_D)) (l2 : Int32) (l3 : Int32) (l4 : Int32) (D : mx_D) : Option (Int32 × mx_D) := (if (D 117 4) ≤ l4 then (some (l3, D)) else (Option.bind (g_M_sits D l4) (fun r2 => (if r2 = 0 then (k31 l2 l3 (l4 + (nI 1)) D) else (if l3 = (-1 : Int32) then (k31 l2 l4 (l4 + (nI 1)) D) else (if l2 = 0 then (rk 8 l4 (rk 8 l3 (if (D 123 (l4).toNatClampNeg) ≤ (D 123 (l3).toNatClampNeg) then (k31 l2 l3 (l4 + (nI 1)) D) else (k31 l2 l4 (l4 + (nI 1)) D)))) else (rk 8 l4 (rk 8 l3 (if (D 123 (l3).toNatClampNeg) ≤ (D 123 (l4).toNatClampNeg) then (k31 l2 l3 (l4 + (nI 1)) D) else (k31 l2 l4 (l4 + (nI 1)) D))))))))))
set_option maxRecDepth 100000 in
set_option maxHeartbeats 4000000 in
theorem tb_M_out_31 (X : ev_X) (F : Nat) (d : Nat) (hd : 5 ≤ d + 1) (E : mx_E) (k31 : Int32 → Int32 → Int32 → mx_D → Option (Int32 × mx_D)) (K31 : ∀ (l2 : Int32) (l3 : Int32) (l4 : Int32) (D : mx_D) (v : Int32 × mx_D), k31 l2 l3 l4 D = some v → ev X (d + 1) 243 (31, [some (.ref 116), none, some (.int l2), some (.int l3), some (.int l4)], [], D, E) (qR (some (.int v.1)) v.2 E)) (l2 : Int32) (l3 : Int32) (l4 : Int32) (D : mx_D) (v : Int32 × mx_D) (h : b_M_out_31 F k31 l2 l3 l4 D = some v) : ev X (d + 1) 243 (31, [some (.ref 116), none, some (.int l2), some (.int l3), some (.int l4)], [], D, E) (qR (some (.int v.1)) v.2 E) := by
  have hq : kq_m 243 = some kq_q243 := rfl
  unfold b_M_out_31 at h
  refine gv_n hq 5 (S' := (39, [some (.ref 116), none, some (.int l2), some (.int l3), some (.int l4)], [.int (D 117 4), .int l4], D, E)) rfl ?_
  refine gv_b hq rfl h 104 42 rfl rfl rfl (fun h => ?_) (fun h => ?_)
  · refine gv_n hq 1 (S' := (105, [some (.ref 116), none, some (.int l2), some (.int l3), some (.int l4)], [.int l3], D, E)) rfl ?_
    cases h
    exact ev_ret hq rfl rfl ⟨rfl, rfl, rfl⟩
  · refine gv_n hq 2 (S' := (45, [some (.ref 116), none, some (.int l2), some (.int l3), some (.int l4)], [.int l4, .ref 116], D, E)) rfl ?_
    obtain ⟨r2, h1, h⟩ := Option.bind_eq_some_iff.mp h
    refine gv_d hq rfl rfl rfl rfl rfl (gv_dd (by omega) (t_M_sits X (d - 1) (by omega) D E _ _ h1)) (S' := (48, [some (.ref 116), none, some (.int l2), some (.int l3), some (.int l4)], [.int r2], D, E)) rfl ?_
    refine gv_b hq rfl h 98 51 rfl rfl rfl (fun h => ?_) (fun h => ?_)
    · refine gv_n hq 2 (S' := (31, [some (.ref 116), none, some (.int l2), some (.int l3), some (.int (l4 + (nI 1)))], [], D, E)) rfl ?_
      exact gv_w (K31 _ _ _ _ _ h) (And.intro rfl (And.intro rfl (And.intro rfl (And.intro rfl trivial))))
    · refine gv_n hq 2 (S' := (53, [some (.ref 116), none, some (.int l2), some (.int l3), some (.int l4)], [.int (-1 : Int32), .int l3], D, E)) rfl ?_
      refine gv_b hq rfl h 95 56 rfl rfl rfl (fun h => ?_) (fun h => ?_)
      · refine gv_n hq 4 (S' := (31, [some (.ref 116), none, some (.int l2), some (.int l4), some (.int (l4 + (nI 1)))], [], D, E)) rfl ?_
        exact gv_w (K31 _ _ _ _ _ h) (And.intro rfl (And.intro rfl (And.intro rfl (And.intro rfl trivial))))
      · refine gv_n hq 1 (S' := (57, [some (.ref 116), none, some (.int l2), some (.int l3), some (.int l4)], [.int l2], D, E)) rfl ?_
        refine gv_b hq rfl h 60 79 rfl rfl rfl (fun h => ?_) (fun h => ?_)
        · refine gv_n hq 3 (S' := (66, [some (.ref 116), none, some (.int l2), some (.int l3), some (.int l4)], [.int l4, .ref 123], D, E)) rfl ?_
          refine gv_ia hq rfl rfl rfl h 67 rfl (fun h => ?_)
          refine gv_n hq 3 (S' := (72, [some (.ref 116), none, some (.int l2), some (.int l3), some (.int l4)], [.int l3, .ref 123, .int (D 123 (l4).toNatClampNeg)], D, E)) rfl ?_
          refine gv_ia hq rfl rfl rfl h 73 rfl (fun h => ?_)
          refine gv_b hq rfl h 98 76 rfl rfl rfl (fun h => ?_) (fun h => ?_)
          · refine gv_n hq 2 (S' := (31, [some (.ref 116), none, some (.int l2), some (.int l3), some (.int (l4 + (nI 1)))], [], D, E)) rfl ?_
            exact gv_w (K31 _ _ _ _ _ h) (And.intro rfl (And.intro rfl (And.intro rfl (And.intro rfl trivial))))
          · refine gv_n hq 5 (S' := (31, [some (.ref 116), none, some (.int l2), some (.int l4), some (.int (l4 + (nI 1)))], [], D, E)) rfl ?_
            exact gv_w (K31 _ _ _ _ _ h) (And.intro rfl (And.intro rfl (And.intro rfl (And.intro rfl trivial))))
        · refine gv_n hq 3 (S' := (85, [some (.ref 116), none, some (.int l2), some (.int l3), some (.int l4)], [.int l4, .ref 123], D, E)) rfl ?_
          refine gv_ia hq rfl rfl rfl h 86 rfl (fun h => ?_)
          refine gv_n hq 3 (S' := (91, [some (.ref 116), none, some (.int l2), some (.int l3), some (.int l4)], [.int l3, .ref 123, .int (D 123 (l4).toNatClampNeg)], D, E)) rfl ?_
          refine gv_ia hq rfl rfl rfl h 92 rfl (fun h => ?_)
          refine gv_b hq rfl h 98 95 rfl rfl rfl (fun h => ?_) (fun h => ?_)
          · refine gv_n hq 2 (S' := (31, [some (.ref 116), none, some (.int l2), some (.int l3), some (.int (l4 + (nI 1)))], [], D, E)) rfl ?_
            exact gv_w (K31 _ _ _ _ _ h) (And.intro rfl (And.intro rfl (And.intro rfl (And.intro rfl trivial))))
          · refine gv_n hq 4 (S' := (31, [some (.ref 116), none, some (.int l2), some (.int l4), some (.int (l4 + (nI 1)))], [], D, E)) rfl ?_
            exact gv_w (K31 _ _ _ _ _ h) (And.intro rfl (And.intro rfl (And.intro rfl (And.intro rfl trivial))))
def g_M_out_31 (F : Nat) : Nat → Int32 → Int32 → Int32 → mx_D → Option (Int32 × mx_D) := it (fun k31 => b_M_out_31 F k31) (fun _ _ _ _ => none)
set_option maxRecDepth 100000 in
set_option maxHeartbeats 4000000 in
theorem t_M_out_31 (X : ev_X) (F : Nat) (d : Nat) (hd : 5 ≤ d + 1) (E : mx_E)  : ∀ (n : Nat) (l2 : Int32) (l3 : Int32) (l4 : Int32) (D : mx_D) (v : Int32 × mx_D), g_M_out_31 F n l2 l3 l4 D = some v → ev X (d + 1) 243 (31, [some (.ref 116), none, some (.int l2), some (.int l3), some (.int l4)], [], D, E) (qR (some (.int v.1)) v.2 E) := by
  intro n
  induction n with
  | zero => intro l2 l3 l4 D v h; cases h
  | succ n ih => intro l2 l3 l4 D v h; exact tb_M_out_31 X F d hd E (g_M_out_31 F n) ih l2 l3 l4 D v h
def g_M_out (F : Nat) (a1 : Int32) (a2 : Int32) (D : mx_D) : Option (Int32 × mx_D) := (if (g_M_isYear D a1) = 0 then (some ((-2 : Int32), D)) else (if (g_M_in ((a2).toInt64) (lN 0) (lN 1)) = 0 then (some ((-2 : Int32), D)) else (Option.bind (g_M_lay F a1 D) (fun r1 => (g_M_out_31 F F a2 (-1 : Int32) (nI 0) r1)))))
set_option maxRecDepth 100000 in
set_option maxHeartbeats 4000000 in
theorem t_M_out (X : ev_X) (F : Nat) (d : Nat) (hd : 5 ≤ d + 1) (E : mx_E) (a1 : Int32) (a2 : Int32) (D : mx_D) (v : Int32 × mx_D) (h : g_M_out F a1 a2 D = some v) : ev X (d + 1) 243 (0, [some (.ref 116), some (.int a1), some (.int a2), none, none], [], D, E) (qR (some (.int v.1)) v.2 E) := by
  have hq : kq_m 243 = some kq_q243 := rfl
  unfold g_M_out at h
  refine gv_n hq 2 (S' := (2, [some (.ref 116), some (.int a1), some (.int a2), none, none], [.int a1, .ref 116], D, E)) rfl ?_
  refine gv_d hq rfl rfl rfl rfl rfl (gv_dd (by omega) (t_M_isYear X (d - 1) (by omega) D E _ _ rfl)) (S' := (5, [some (.ref 116), some (.int a1), some (.int a2), none, none], [.int (g_M_isYear D a1)], D, E)) rfl ?_
  refine gv_b hq rfl h 18 8 rfl rfl rfl (fun h => ?_) (fun h => ?_)
  · refine gv_n hq 1 (S' := (20, [some (.ref 116), some (.int a1), some (.int a2), none, none], [.int (-2 : Int32)], D, E)) rfl ?_
    cases h
    exact ev_ret hq rfl rfl ⟨rfl, rfl, rfl⟩
  · refine gv_n hq 4 (S' := (12, [some (.ref 116), some (.int a1), some (.int a2), none, none], [.long (lN 1), .long (lN 0), .long ((a2).toInt64)], D, E)) rfl ?_
    refine gv_d hq rfl rfl rfl rfl rfl ((t_M_in X d D E _ _ _ _ rfl)) (S' := (15, [some (.ref 116), some (.int a1), some (.int a2), none, none], [.int (g_M_in ((a2).toInt64) (lN 0) (lN 1))], D, E)) rfl ?_
    refine gv_b hq rfl h 18 21 rfl rfl rfl (fun h => ?_) (fun h => ?_)
    · refine gv_n hq 1 (S' := (20, [some (.ref 116), some (.int a1), some (.int a2), none, none], [.int (-2 : Int32)], D, E)) rfl ?_
      cases h
      exact ev_ret hq rfl rfl ⟨rfl, rfl, rfl⟩
    · refine gv_n hq 2 (S' := (23, [some (.ref 116), some (.int a1), some (.int a2), none, none], [.int a1, .ref 116], D, E)) rfl ?_
      obtain ⟨r1, h1, h⟩ := Option.bind_eq_some_iff.mp h
      refine gv_d hq rfl rfl rfl rfl rfl (gv_dd (by omega) (t_M_lay X F (d - 1) (by omega) E _ _ _ h1)) (S' := (26, [some (.ref 116), some (.int a1), some (.int a2), none, none], [], r1, E)) rfl ?_
      refine gv_n hq 4 (S' := (31, [some (.ref 116), some (.int a1), some (.int a2), some (.int (-1 : Int32)), some (.int (nI 0))], [], r1, E)) rfl ?_
      exact gv_w (t_M_out_31 X F d hd E F _ _ _ _ _ h) (And.intro rfl (And.intro rfl (And.intro rfl (And.intro rfl trivial))))
def g_X_canAskOfSitter (D : mx_D) (a1 : Int32) (a2 : Int32) : Option (Int32) := (if (g_X_isYear a2) = 0 then (some (nI 0)) else (Option.bind (g_Church_isSeated D a1) (fun r1 => (if r1 = 0 then (some (nI 0)) else (some (nI 1))))))
set_option maxRecDepth 100000 in
set_option maxHeartbeats 4000000 in
theorem t_X_canAskOfSitter (X : ev_X) (d : Nat) (hd : 2 ≤ d + 1) (D : mx_D) (E : mx_E) (a1 : Int32) (a2 : Int32) (v : Int32) (h : g_X_canAskOfSitter D a1 a2 = some v) : ev X (d + 1) 127 (0, [some (.ref 0), some (.int a1), some (.int a2)], [], D, E) (qR (some (.int v)) D E) := by
  have hq : kq_m 127 = some kq_q127 := rfl
  unfold g_X_canAskOfSitter at h
  refine gv_n hq 1 (S' := (1, [some (.ref 0), some (.int a1), some (.int a2)], [.int a2], D, E)) rfl ?_
  refine gv_d hq rfl rfl rfl rfl rfl ((t_X_isYear X d D E _ _ rfl)) (S' := (4, [some (.ref 0), some (.int a1), some (.int a2)], [.int (g_X_isYear a2)], D, E)) rfl ?_
  refine gv_b hq rfl h 22 7 rfl rfl rfl (fun h => ?_) (fun h => ?_)
  · refine gv_n hq 1 (S' := (23, [some (.ref 0), some (.int a1), some (.int a2)], [.int (nI 0)], D, E)) rfl ?_
    cases h
    exact ev_ret hq rfl rfl ⟨rfl, rfl, rfl⟩
  · refine gv_n hq 3 (S' := (12, [some (.ref 0), some (.int a1), some (.int a2)], [.int a1, .ref 19], D, E)) rfl ?_
    obtain ⟨r1, h1, h⟩ := Option.bind_eq_some_iff.mp h
    refine gv_d hq rfl rfl rfl rfl rfl (gv_dd (by omega) (t_Church_isSeated X (d - 1) (by omega) D E _ _ h1)) (S' := (15, [some (.ref 0), some (.int a1), some (.int a2)], [.int r1], D, E)) rfl ?_
    refine gv_b hq rfl h 22 18 rfl rfl rfl (fun h => ?_) (fun h => ?_)
    · refine gv_n hq 1 (S' := (23, [some (.ref 0), some (.int a1), some (.int a2)], [.int (nI 0)], D, E)) rfl ?_
      cases h
      exact ev_ret hq rfl rfl ⟨rfl, rfl, rfl⟩
    · refine gv_n hq 2 (S' := (23, [some (.ref 0), some (.int a1), some (.int a2)], [.int (nI 1)], D, E)) rfl ?_
      cases h
      exact ev_ret hq rfl rfl ⟨rfl, rfl, rfl⟩
def b_X_above_29 (F : Nat) (k29 : Int32 → Int32 → Int32 → mx_D → Option (Int32 × mx_D)) (l1 : Int32) (l3 : Int32) (l4 : Int32) (D : mx_D) : Option (Int32 × mx_D) := (if (D 24 6) ≤ l4 then (some (l3, D)) else (if (g_Heights_isIn D l4) = 0 then (k29 l1 l3 (l4 + (nI 1)) D) else (rk 8 l4 (rk 8 l1 (if (D 35 (l1).toNatClampNeg) ≤ (D 35 (l4).toNatClampNeg) then (k29 l1 l3 (l4 + (nI 1)) D) else (k29 l1 (l3 + (nI 1)) (l4 + (nI 1)) D))))))
set_option maxRecDepth 100000 in
set_option maxHeartbeats 4000000 in
theorem tb_X_above_29 (X : ev_X) (F : Nat) (d : Nat) (hd : 5 ≤ d + 1) (E : mx_E) (k29 : Int32 → Int32 → Int32 → mx_D → Option (Int32 × mx_D)) (K29 : ∀ (l1 : Int32) (l3 : Int32) (l4 : Int32) (D : mx_D) (v : Int32 × mx_D), k29 l1 l3 l4 D = some v → ev X (d + 1) 126 (29, [some (.ref 0), some (.int l1), none, some (.int l3), some (.int l4)], [], D, E) (qR (some (.int v.1)) v.2 E)) (l1 : Int32) (l3 : Int32) (l4 : Int32) (D : mx_D) (v : Int32 × mx_D) (h : b_X_above_29 F k29 l1 l3 l4 D = some v) : ev X (d + 1) 126 (29, [some (.ref 0), some (.int l1), none, some (.int l3), some (.int l4)], [], D, E) (qR (some (.int v.1)) v.2 E) := by
  have hq : kq_m 126 = some kq_q126 := rfl
  unfold b_X_above_29 at h
  refine gv_n hq 5 (S' := (41, [some (.ref 0), some (.int l1), none, some (.int l3), some (.int l4)], [.int (D 24 6), .int l4], D, E)) rfl ?_
  refine gv_b hq rfl h 87 44 rfl rfl rfl (fun h => ?_) (fun h => ?_)
  · refine gv_n hq 1 (S' := (88, [some (.ref 0), some (.int l1), none, some (.int l3), some (.int l4)], [.int l3], D, E)) rfl ?_
    cases h
    exact ev_ret hq rfl rfl ⟨rfl, rfl, rfl⟩
  · refine gv_n hq 3 (S' := (50, [some (.ref 0), some (.int l1), none, some (.int l3), some (.int l4)], [.int l4, .ref 34], D, E)) rfl ?_
    refine gv_d hq rfl rfl rfl rfl rfl ((t_Heights_isIn X d D E _ _ rfl)) (S' := (53, [some (.ref 0), some (.int l1), none, some (.int l3), some (.int l4)], [.int (g_Heights_isIn D l4)], D, E)) rfl ?_
    refine gv_b hq rfl h 81 56 rfl rfl rfl (fun h => ?_) (fun h => ?_)
    · refine gv_n hq 2 (S' := (29, [some (.ref 0), some (.int l1), none, some (.int l3), some (.int (l4 + (nI 1)))], [], D, E)) rfl ?_
      exact gv_w (K29 _ _ _ _ _ h) (And.intro rfl (And.intro rfl (And.intro rfl (And.intro rfl trivial))))
    · refine gv_n hq 4 (S' := (65, [some (.ref 0), some (.int l1), none, some (.int l3), some (.int l4)], [.int l4, .ref 35], D, E)) rfl ?_
      refine gv_ia hq rfl rfl rfl h 66 rfl (fun h => ?_)
      refine gv_n hq 4 (S' := (74, [some (.ref 0), some (.int l1), none, some (.int l3), some (.int l4)], [.int l1, .ref 35, .int (D 35 (l4).toNatClampNeg)], D, E)) rfl ?_
      refine gv_ia hq rfl rfl rfl h 75 rfl (fun h => ?_)
      refine gv_b hq rfl h 81 78 rfl rfl rfl (fun h => ?_) (fun h => ?_)
      · refine gv_n hq 2 (S' := (29, [some (.ref 0), some (.int l1), none, some (.int l3), some (.int (l4 + (nI 1)))], [], D, E)) rfl ?_
        exact gv_w (K29 _ _ _ _ _ h) (And.intro rfl (And.intro rfl (And.intro rfl (And.intro rfl trivial))))
      · refine gv_n hq 3 (S' := (29, [some (.ref 0), some (.int l1), none, some (.int (l3 + (nI 1))), some (.int (l4 + (nI 1)))], [], D, E)) rfl ?_
        exact gv_w (K29 _ _ _ _ _ h) (And.intro rfl (And.intro rfl (And.intro rfl (And.intro rfl trivial))))
def g_X_above_29 (F : Nat) : Nat → Int32 → Int32 → Int32 → mx_D → Option (Int32 × mx_D) := it (fun k29 => b_X_above_29 F k29) (fun _ _ _ _ => none)
set_option maxRecDepth 100000 in
set_option maxHeartbeats 4000000 in
theorem t_X_above_29 (X : ev_X) (F : Nat) (d : Nat) (hd : 5 ≤ d + 1) (E : mx_E)  : ∀ (n : Nat) (l1 : Int32) (l3 : Int32) (l4 : Int32) (D : mx_D) (v : Int32 × mx_D), g_X_above_29 F n l1 l3 l4 D = some v → ev X (d + 1) 126 (29, [some (.ref 0), some (.int l1), none, some (.int l3), some (.int l4)], [], D, E) (qR (some (.int v.1)) v.2 E) := by
  intro n
  induction n with
  | zero => intro l1 l3 l4 D v h; cases h
  | succ n ih => intro l1 l3 l4 D v h; exact tb_X_above_29 X F d hd E (g_X_above_29 F n) ih l1 l3 l4 D v h
def g_X_above (F : Nat) (a1 : Int32) (a2 : Int32) (D : mx_D) : Option (Int32 × mx_D) := (Option.bind (g_X_canAskOfSitter D a1 a2) (fun r1 => (if r1 = 0 then (some ((-2 : Int32), D)) else (Option.bind (g_Heights_take F a2 D) (fun r2 => (g_X_above_29 F F a1 (nI 0) (nI 0) r2))))))
set_option maxRecDepth 100000 in
set_option maxHeartbeats 4000000 in
theorem t_X_above (X : ev_X) (F : Nat) (d : Nat) (hd : 5 ≤ d + 1) (E : mx_E) (a1 : Int32) (a2 : Int32) (D : mx_D) (v : Int32 × mx_D) (h : g_X_above F a1 a2 D = some v) : ev X (d + 1) 126 (0, [some (.ref 0), some (.int a1), some (.int a2), none, none], [], D, E) (qR (some (.int v.1)) v.2 E) := by
  have hq : kq_m 126 = some kq_q126 := rfl
  unfold g_X_above at h
  refine gv_n hq 3 (S' := (3, [some (.ref 0), some (.int a1), some (.int a2), none, none], [.int a2, .int a1, .ref 0], D, E)) rfl ?_
  obtain ⟨r1, h1, h⟩ := Option.bind_eq_some_iff.mp h
  refine gv_d hq rfl rfl rfl rfl rfl (gv_dd (by omega) (t_X_canAskOfSitter X (d - 1) (by omega) D E _ _ _ h1)) (S' := (6, [some (.ref 0), some (.int a1), some (.int a2), none, none], [.int r1], D, E)) rfl ?_
  refine gv_b hq rfl h 9 12 rfl rfl rfl (fun h => ?_) (fun h => ?_)
  · refine gv_n hq 1 (S' := (11, [some (.ref 0), some (.int a1), some (.int a2), none, none], [.int (-2 : Int32)], D, E)) rfl ?_
    cases h
    exact ev_ret hq rfl rfl ⟨rfl, rfl, rfl⟩
  · refine gv_n hq 5 (S' := (21, [some (.ref 0), some (.int a1), some (.int a2), none, none], [.int a2, .ref 19, .ref 34], D, E)) rfl ?_
    obtain ⟨r2, h1, h⟩ := Option.bind_eq_some_iff.mp h
    refine gv_d hq rfl rfl rfl rfl rfl (gv_dd (by omega) (t_Heights_take X F (d - 1) (by omega) E _ _ _ h1)) (S' := (24, [some (.ref 0), some (.int a1), some (.int a2), none, none], [], r2, E)) rfl ?_
    refine gv_n hq 4 (S' := (29, [some (.ref 0), some (.int a1), some (.int a2), some (.int (nI 0)), some (.int (nI 0))], [], r2, E)) rfl ?_
    exact gv_w (t_X_above_29 X F d hd E F _ _ _ _ _ h) (And.intro rfl (And.intro rfl (And.intro rfl (And.intro rfl trivial))))
def g_M_isSitter (D : mx_D) (a1 : Int32) (a2 : Int32) : Option (Int32) := (if (g_M_isPerson D a1) = 0 then (some (nI 0)) else (if (g_M_isYear D a2) = 0 then (some (nI 0)) else (Option.bind (g_M_sits D a1) (fun r1 => (if r1 = 0 then (some (nI 0)) else (some (nI 1)))))))
set_option maxRecDepth 100000 in
set_option maxHeartbeats 4000000 in
theorem t_M_isSitter (X : ev_X) (d : Nat) (hd : 2 ≤ d + 1) (D : mx_D) (E : mx_E) (a1 : Int32) (a2 : Int32) (v : Int32) (h : g_M_isSitter D a1 a2 = some v) : ev X (d + 1) 245 (0, [some (.ref 116), some (.int a1), some (.int a2)], [], D, E) (qR (some (.int v)) D E) := by
  have hq : kq_m 245 = some kq_q245 := rfl
  unfold g_M_isSitter at h
  refine gv_n hq 2 (S' := (2, [some (.ref 116), some (.int a1), some (.int a2)], [.int a1, .ref 116], D, E)) rfl ?_
  refine gv_d hq rfl rfl rfl rfl rfl (gv_dd (by omega) (t_M_isPerson X (d - 1) (by omega) D E _ _ rfl)) (S' := (5, [some (.ref 116), some (.int a1), some (.int a2)], [.int (g_M_isPerson D a1)], D, E)) rfl ?_
  refine gv_b hq rfl h 28 8 rfl rfl rfl (fun h => ?_) (fun h => ?_)
  · refine gv_n hq 1 (S' := (29, [some (.ref 116), some (.int a1), some (.int a2)], [.int (nI 0)], D, E)) rfl ?_
    cases h
    exact ev_ret hq rfl rfl ⟨rfl, rfl, rfl⟩
  · refine gv_n hq 2 (S' := (10, [some (.ref 116), some (.int a1), some (.int a2)], [.int a2, .ref 116], D, E)) rfl ?_
    refine gv_d hq rfl rfl rfl rfl rfl (gv_dd (by omega) (t_M_isYear X (d - 1) (by omega) D E _ _ rfl)) (S' := (13, [some (.ref 116), some (.int a1), some (.int a2)], [.int (g_M_isYear D a2)], D, E)) rfl ?_
    refine gv_b hq rfl h 28 16 rfl rfl rfl (fun h => ?_) (fun h => ?_)
    · refine gv_n hq 1 (S' := (29, [some (.ref 116), some (.int a1), some (.int a2)], [.int (nI 0)], D, E)) rfl ?_
      cases h
      exact ev_ret hq rfl rfl ⟨rfl, rfl, rfl⟩
    · refine gv_n hq 2 (S' := (18, [some (.ref 116), some (.int a1), some (.int a2)], [.int a1, .ref 116], D, E)) rfl ?_
      obtain ⟨r1, h1, h⟩ := Option.bind_eq_some_iff.mp h
      refine gv_d hq rfl rfl rfl rfl rfl (gv_dd (by omega) (t_M_sits X (d - 1) (by omega) D E _ _ h1)) (S' := (21, [some (.ref 116), some (.int a1), some (.int a2)], [.int r1], D, E)) rfl ?_
      refine gv_b hq rfl h 28 24 rfl rfl rfl (fun h => ?_) (fun h => ?_)
      · refine gv_n hq 1 (S' := (29, [some (.ref 116), some (.int a1), some (.int a2)], [.int (nI 0)], D, E)) rfl ?_
        cases h
        exact ev_ret hq rfl rfl ⟨rfl, rfl, rfl⟩
      · refine gv_n hq 2 (S' := (29, [some (.ref 116), some (.int a1), some (.int a2)], [.int (nI 1)], D, E)) rfl ?_
        cases h
        exact ev_ret hq rfl rfl ⟨rfl, rfl, rfl⟩
def b_M_above_22 (F : Nat) (k22 : Int32 → Int32 → Int32 → mx_D → Option (Int32 × mx_D)) (l1 : Int32) (l3 : Int32) (l4 : Int32) (D : mx_D) : Option (Int32 × mx_D) := (if (D 117 4) ≤ l4 then (some (l3, D)) else (Option.bind (g_M_sits D l4) (fun r3 => (if r3 = 0 then (k22 l1 (l3 + (nI 0)) (l4 + (nI 1)) D) else (rk 8 l4 (rk 8 l1 (if (D 123 (l1).toNatClampNeg) ≤ (D 123 (l4).toNatClampNeg) then (k22 l1 (l3 + (nI 0)) (l4 + (nI 1)) D) else (k22 l1 (l3 + (nI 1)) (l4 + (nI 1)) D))))))))
set_option maxRecDepth 100000 in
set_option maxHeartbeats 4000000 in
theorem tb_M_above_22 (X : ev_X) (F : Nat) (d : Nat) (hd : 5 ≤ d + 1) (E : mx_E) (k22 : Int32 → Int32 → Int32 → mx_D → Option (Int32 × mx_D)) (K22 : ∀ (l1 : Int32) (l3 : Int32) (l4 : Int32) (D : mx_D) (v : Int32 × mx_D), k22 l1 l3 l4 D = some v → ev X (d + 1) 244 (22, [some (.ref 116), some (.int l1), none, some (.int l3), some (.int l4)], [], D, E) (qR (some (.int v.1)) v.2 E)) (l1 : Int32) (l3 : Int32) (l4 : Int32) (D : mx_D) (v : Int32 × mx_D) (h : b_M_above_22 F k22 l1 l3 l4 D = some v) : ev X (d + 1) 244 (22, [some (.ref 116), some (.int l1), none, some (.int l3), some (.int l4)], [], D, E) (qR (some (.int v.1)) v.2 E) := by
  have hq : kq_m 244 = some kq_q244 := rfl
  unfold b_M_above_22 at h
  refine gv_n hq 5 (S' := (30, [some (.ref 116), some (.int l1), none, some (.int l3), some (.int l4)], [.int (D 117 4), .int l4], D, E)) rfl ?_
  refine gv_b hq rfl h 72 33 rfl rfl rfl (fun h => ?_) (fun h => ?_)
  · refine gv_n hq 1 (S' := (73, [some (.ref 116), some (.int l1), none, some (.int l3), some (.int l4)], [.int l3], D, E)) rfl ?_
    cases h
    exact ev_ret hq rfl rfl ⟨rfl, rfl, rfl⟩
  · refine gv_n hq 3 (S' := (37, [some (.ref 116), some (.int l1), none, some (.int l3), some (.int l4)], [.int l4, .ref 116, .int l3], D, E)) rfl ?_
    obtain ⟨r3, h1, h⟩ := Option.bind_eq_some_iff.mp h
    refine gv_d hq rfl rfl rfl rfl rfl (gv_dd (by omega) (t_M_sits X (d - 1) (by omega) D E _ _ h1)) (S' := (40, [some (.ref 116), some (.int l1), none, some (.int l3), some (.int l4)], [.int r3, .int l3], D, E)) rfl ?_
    refine gv_b hq rfl h 63 43 rfl rfl rfl (fun h => ?_) (fun h => ?_)
    · refine gv_n hq 5 (S' := (22, [some (.ref 116), some (.int l1), none, some (.int (l3 + (nI 0))), some (.int (l4 + (nI 1)))], [], D, E)) rfl ?_
      exact gv_w (K22 _ _ _ _ _ h) (And.intro rfl (And.intro rfl (And.intro rfl (And.intro rfl trivial))))
    · refine gv_n hq 3 (S' := (49, [some (.ref 116), some (.int l1), none, some (.int l3), some (.int l4)], [.int l4, .ref 123, .int l3], D, E)) rfl ?_
      refine gv_ia hq rfl rfl rfl h 50 rfl (fun h => ?_)
      refine gv_n hq 3 (S' := (55, [some (.ref 116), some (.int l1), none, some (.int l3), some (.int l4)], [.int l1, .ref 123, .int (D 123 (l4).toNatClampNeg), .int l3], D, E)) rfl ?_
      refine gv_ia hq rfl rfl rfl h 56 rfl (fun h => ?_)
      refine gv_b hq rfl h 63 59 rfl rfl rfl (fun h => ?_) (fun h => ?_)
      · refine gv_n hq 5 (S' := (22, [some (.ref 116), some (.int l1), none, some (.int (l3 + (nI 0))), some (.int (l4 + (nI 1)))], [], D, E)) rfl ?_
        exact gv_w (K22 _ _ _ _ _ h) (And.intro rfl (And.intro rfl (And.intro rfl (And.intro rfl trivial))))
      · refine gv_n hq 6 (S' := (22, [some (.ref 116), some (.int l1), none, some (.int (l3 + (nI 1))), some (.int (l4 + (nI 1)))], [], D, E)) rfl ?_
        exact gv_w (K22 _ _ _ _ _ h) (And.intro rfl (And.intro rfl (And.intro rfl (And.intro rfl trivial))))
def g_M_above_22 (F : Nat) : Nat → Int32 → Int32 → Int32 → mx_D → Option (Int32 × mx_D) := it (fun k22 => b_M_above_22 F k22) (fun _ _ _ _ => none)
set_option maxRecDepth 100000 in
set_option maxHeartbeats 4000000 in
theorem t_M_above_22 (X : ev_X) (F : Nat) (d : Nat) (hd : 5 ≤ d + 1) (E : mx_E)  : ∀ (n : Nat) (l1 : Int32) (l3 : Int32) (l4 : Int32) (D : mx_D) (v : Int32 × mx_D), g_M_above_22 F n l1 l3 l4 D = some v → ev X (d + 1) 244 (22, [some (.ref 116), some (.int l1), none, some (.int l3), some (.int l4)], [], D, E) (qR (some (.int v.1)) v.2 E) := by
  intro n
  induction n with
  | zero => intro l1 l3 l4 D v h; cases h
  | succ n ih => intro l1 l3 l4 D v h; exact tb_M_above_22 X F d hd E (g_M_above_22 F n) ih l1 l3 l4 D v h
def g_M_above (F : Nat) (a1 : Int32) (a2 : Int32) (D : mx_D) : Option (Int32 × mx_D) := (Option.bind (g_M_isSitter D a1 a2) (fun r1 => (if r1 = 0 then (some ((-2 : Int32), D)) else (Option.bind (g_M_lay F a2 D) (fun r2 => (g_M_above_22 F F a1 (nI 0) (nI 0) r2))))))
set_option maxRecDepth 100000 in
set_option maxHeartbeats 4000000 in
theorem t_M_above (X : ev_X) (F : Nat) (d : Nat) (hd : 5 ≤ d + 1) (E : mx_E) (a1 : Int32) (a2 : Int32) (D : mx_D) (v : Int32 × mx_D) (h : g_M_above F a1 a2 D = some v) : ev X (d + 1) 244 (0, [some (.ref 116), some (.int a1), some (.int a2), none, none], [], D, E) (qR (some (.int v.1)) v.2 E) := by
  have hq : kq_m 244 = some kq_q244 := rfl
  unfold g_M_above at h
  refine gv_n hq 3 (S' := (3, [some (.ref 116), some (.int a1), some (.int a2), none, none], [.int a2, .int a1, .ref 116], D, E)) rfl ?_
  obtain ⟨r1, h1, h⟩ := Option.bind_eq_some_iff.mp h
  refine gv_d hq rfl rfl rfl rfl rfl (gv_dd (by omega) (t_M_isSitter X (d - 1) (by omega) D E _ _ _ h1)) (S' := (6, [some (.ref 116), some (.int a1), some (.int a2), none, none], [.int r1], D, E)) rfl ?_
  refine gv_b hq rfl h 9 12 rfl rfl rfl (fun h => ?_) (fun h => ?_)
  · refine gv_n hq 1 (S' := (11, [some (.ref 116), some (.int a1), some (.int a2), none, none], [.int (-2 : Int32)], D, E)) rfl ?_
    cases h
    exact ev_ret hq rfl rfl ⟨rfl, rfl, rfl⟩
  · refine gv_n hq 2 (S' := (14, [some (.ref 116), some (.int a1), some (.int a2), none, none], [.int a2, .ref 116], D, E)) rfl ?_
    obtain ⟨r2, h1, h⟩ := Option.bind_eq_some_iff.mp h
    refine gv_d hq rfl rfl rfl rfl rfl (gv_dd (by omega) (t_M_lay X F (d - 1) (by omega) E _ _ _ h1)) (S' := (17, [some (.ref 116), some (.int a1), some (.int a2), none, none], [], r2, E)) rfl ?_
    refine gv_n hq 4 (S' := (22, [some (.ref 116), some (.int a1), some (.int a2), some (.int (nI 0)), some (.int (nI 0))], [], r2, E)) rfl ?_
    exact gv_w (t_M_above_22 X F d hd E F _ _ _ _ _ h) (And.intro rfl (And.intro rfl (And.intro rfl (And.intro rfl trivial))))
def b_Sawing_begin_2 (F : Nat) (k2 : Int32 → mx_D → Option (mx_D)) (l2 : Int32) (D : mx_D) : Option (mx_D) := (if (nI 4) ≤ l2 then (some D) else (rk 4 l2 (if ((sD D 38 (l2).toNatClampNeg (nI 0)) 19 0) ≤ l2 then (rk 4 l2 (k2 (l2 + (nI 1)) (sD (sD D 38 (l2).toNatClampNeg (nI 0)) 39 (l2).toNatClampNeg (nI 0)))) else (rk 4 l2 (rk 4 l2 (rk 4 l2 (k2 (l2 + (nI 1)) (sD (sD D 38 (l2).toNatClampNeg (nI 0)) 39 (l2).toNatClampNeg (((sD D 38 (l2).toNatClampNeg (nI 0)) 21 (l2).toNatClampNeg) - ((sD D 38 (l2).toNatClampNeg (nI 0)) 22 (l2).toNatClampNeg))))))))))
set_option maxRecDepth 100000 in
set_option maxHeartbeats 4000000 in
theorem tb_Sawing_begin_2 (X : ev_X) (F : Nat) (d : Nat) (E : mx_E) (k2 : Int32 → mx_D → Option (mx_D)) (K2 : ∀ (l2 : Int32) (D : mx_D) (v : mx_D), k2 l2 D = some v → ev X d 83 (2, [some (.ref 37), some (.ref 19), some (.int l2)], [], D, E) (qR none v E)) (l2 : Int32) (D : mx_D) (v : mx_D) (h : b_Sawing_begin_2 F k2 l2 D = some v) : ev X d 83 (2, [some (.ref 37), some (.ref 19), some (.int l2)], [], D, E) (qR none v E) := by
  have hq : kq_m 83 = some kq_q83 := rfl
  unfold b_Sawing_begin_2 at h
  refine gv_n hq 2 (S' := (4, [some (.ref 37), some (.ref 19), some (.int l2)], [.int (nI 4), .int l2], D, E)) rfl ?_
  refine gv_b hq rfl h 51 7 rfl rfl rfl (fun h => ?_) (fun h => ?_)
  · cases h
    exact ev_ret hq rfl rfl ⟨rfl, rfl, rfl⟩
  · refine gv_n hq 4 (S' := (13, [some (.ref 37), some (.ref 19), some (.int l2)], [.int (nI 0), .int l2, .ref 38], D, E)) rfl ?_
    refine gv_is hq rfl rfl h 14 rfl (fun h => ?_)
    refine gv_n hq 6 (S' := (24, [some (.ref 37), some (.ref 19), some (.int l2)], [.int ((sD D 38 (l2).toNatClampNeg (nI 0)) 19 0), .int l2, .int l2, .ref 39], (sD D 38 (l2).toNatClampNeg (nI 0)), E)) rfl ?_
    refine gv_b hq rfl h 43 27 rfl rfl rfl (fun h => ?_) (fun h => ?_)
    · refine gv_n hq 1 (S' := (44, [some (.ref 37), some (.ref 19), some (.int l2)], [.int (nI 0), .int l2, .ref 39], (sD D 38 (l2).toNatClampNeg (nI 0)), E)) rfl ?_
      refine gv_is hq rfl rfl h 45 rfl (fun h => ?_)
      refine gv_n hq 2 (S' := (2, [some (.ref 37), some (.ref 19), some (.int (l2 + (nI 1)))], [], (sD (sD D 38 (l2).toNatClampNeg (nI 0)) 39 (l2).toNatClampNeg (nI 0)), E)) rfl ?_
      exact gv_w (K2 _ _ _ h) (And.intro rfl (And.intro rfl (And.intro rfl trivial)))
    · refine gv_n hq 3 (S' := (32, [some (.ref 37), some (.ref 19), some (.int l2)], [.int l2, .ref 21, .int l2, .ref 39], (sD D 38 (l2).toNatClampNeg (nI 0)), E)) rfl ?_
      refine gv_ia hq rfl rfl rfl h 33 rfl (fun h => ?_)
      refine gv_n hq 3 (S' := (38, [some (.ref 37), some (.ref 19), some (.int l2)], [.int l2, .ref 22, .int ((sD D 38 (l2).toNatClampNeg (nI 0)) 21 (l2).toNatClampNeg), .int l2, .ref 39], (sD D 38 (l2).toNatClampNeg (nI 0)), E)) rfl ?_
      refine gv_ia hq rfl rfl rfl h 39 rfl (fun h => ?_)
      refine gv_n hq 2 (S' := (44, [some (.ref 37), some (.ref 19), some (.int l2)], [.int (((sD D 38 (l2).toNatClampNeg (nI 0)) 21 (l2).toNatClampNeg) - ((sD D 38 (l2).toNatClampNeg (nI 0)) 22 (l2).toNatClampNeg)), .int l2, .ref 39], (sD D 38 (l2).toNatClampNeg (nI 0)), E)) rfl ?_
      refine gv_is hq rfl rfl h 45 rfl (fun h => ?_)
      refine gv_n hq 2 (S' := (2, [some (.ref 37), some (.ref 19), some (.int (l2 + (nI 1)))], [], (sD (sD D 38 (l2).toNatClampNeg (nI 0)) 39 (l2).toNatClampNeg (((sD D 38 (l2).toNatClampNeg (nI 0)) 21 (l2).toNatClampNeg) - ((sD D 38 (l2).toNatClampNeg (nI 0)) 22 (l2).toNatClampNeg))), E)) rfl ?_
      exact gv_w (K2 _ _ _ h) (And.intro rfl (And.intro rfl (And.intro rfl trivial)))
def g_Sawing_begin_2 (F : Nat) : Nat → Int32 → mx_D → Option (mx_D) := it (fun k2 => b_Sawing_begin_2 F k2) (fun _ _ => none)
set_option maxRecDepth 100000 in
set_option maxHeartbeats 4000000 in
theorem t_Sawing_begin_2 (X : ev_X) (F : Nat) (d : Nat) (E : mx_E)  : ∀ (n : Nat) (l2 : Int32) (D : mx_D) (v : mx_D), g_Sawing_begin_2 F n l2 D = some v → ev X d 83 (2, [some (.ref 37), some (.ref 19), some (.int l2)], [], D, E) (qR none v E) := by
  intro n
  induction n with
  | zero => intro l2 D v h; cases h
  | succ n ih => intro l2 D v h; exact tb_Sawing_begin_2 X F d E (g_Sawing_begin_2 F n) ih l2 D v h
def g_Sawing_begin (F : Nat) (D : mx_D) : Option (mx_D) := (g_Sawing_begin_2 F F (nI 0) D)
set_option maxRecDepth 100000 in
set_option maxHeartbeats 4000000 in
theorem t_Sawing_begin (X : ev_X) (F : Nat) (d : Nat) (E : mx_E) (D : mx_D) (v : mx_D) (h : g_Sawing_begin F D = some v) : ev X d 83 (0, [some (.ref 37), some (.ref 19), none], [], D, E) (qR none v E) := by
  have hq : kq_m 83 = some kq_q83 := rfl
  unfold g_Sawing_begin at h
  refine gv_n hq 2 (S' := (2, [some (.ref 37), some (.ref 19), some (.int (nI 0))], [], D, E)) rfl ?_
  exact gv_w (t_Sawing_begin_2 X F d E F _ _ _ h) (And.intro rfl (And.intro rfl (And.intro rfl trivial)))
def b_Sawing_measure_57 (F : Nat) (k2 : Int32 → Int32 → mx_D → Option (mx_D)) (l2 : Int32) (l3 : Int32) (l4 : Int32) (s1 : Int32) (s2 : Int32) (D : mx_D) : Option (mx_D) := (rk 4 s1 (rk 4 l3 (if ((sD D 41 (s1).toNatClampNeg s2) 40 (l3).toNatClampNeg) = 0 then (rk 4 l3 (k2 l2 (l3 + (nI 1)) (sD (sD D 41 (s1).toNatClampNeg s2) 42 (l3).toNatClampNeg (nI 0)))) else (Option.bind (g_Heights_tallestOf F (sD D 41 (s1).toNatClampNeg s2) l4) (fun r1 => (rk 4 l3 (k2 l2 (l3 + (nI 1)) (sD (sD D 41 (s1).toNatClampNeg s2) 42 (l3).toNatClampNeg r1))))))))
set_option maxRecDepth 100000 in
set_option maxHeartbeats 4000000 in
theorem tb_Sawing_measure_57 (X : ev_X) (F : Nat) (d : Nat) (hd : 2 ≤ d + 1) (E : mx_E) (k2 : Int32 → Int32 → mx_D → Option (mx_D)) (K2 : ∀ (l2 : Int32) (l3 : Int32) (D : mx_D) (v : mx_D), k2 l2 l3 D = some v → ev X (d + 1) 85 (2, [some (.ref 37), some (.ref 34), some (.int l2), some (.int l3), none], [], D, E) (qR none v E)) (l2 : Int32) (l3 : Int32) (l4 : Int32) (s1 : Int32) (s2 : Int32) (D : mx_D) (v : mx_D) (h : b_Sawing_measure_57 F k2 l2 l3 l4 s1 s2 D = some v) : ev X (d + 1) 85 (57, [some (.ref 37), some (.ref 34), some (.int l2), some (.int l3), some (.int l4)], [.int s2, .int s1, .ref 41], D, E) (qR none v E) := by
  have hq : kq_m 85 = some kq_q85 := rfl
  unfold b_Sawing_measure_57 at h
  refine gv_is hq rfl rfl h 58 rfl (fun h => ?_)
  refine gv_n hq 6 (S' := (68, [some (.ref 37), some (.ref 34), some (.int l2), some (.int l3), some (.int l4)], [.int l3, .ref 40, .int l3, .ref 42], (sD D 41 (s1).toNatClampNeg s2), E)) rfl ?_
  refine gv_ba2 hq rfl rfl h 69 rfl (fun h => ?_)
  refine gv_b hq rfl h 81 72 rfl rfl rfl (fun h => ?_) (fun h => ?_)
  · refine gv_n hq 1 (S' := (82, [some (.ref 37), some (.ref 34), some (.int l2), some (.int l3), some (.int l4)], [.int (nI 0), .int l3, .ref 42], (sD D 41 (s1).toNatClampNeg s2), E)) rfl ?_
    refine gv_is hq rfl rfl h 83 rfl (fun h => ?_)
    refine gv_n hq 2 (S' := (2, [some (.ref 37), some (.ref 34), some (.int l2), some (.int (l3 + (nI 1))), some (.int l4)], [], (sD (sD D 41 (s1).toNatClampNeg s2) 42 (l3).toNatClampNeg (nI 0)), E)) rfl ?_
    exact gv_w (K2 _ _ _ _ h) (And.intro rfl (And.intro rfl (And.intro rfl (And.intro rfl trivial))))
  · refine gv_n hq 2 (S' := (75, [some (.ref 37), some (.ref 34), some (.int l2), some (.int l3), some (.int l4)], [.int l4, .ref 34, .int l3, .ref 42], (sD D 41 (s1).toNatClampNeg s2), E)) rfl ?_
    obtain ⟨r1, h1, h⟩ := Option.bind_eq_some_iff.mp h
    refine gv_d hq rfl rfl rfl rfl rfl (gv_dd (by omega) (t_Heights_tallestOf X F (d - 1) (by omega) (sD D 41 (s1).toNatClampNeg s2) E _ _ h1)) (S' := (78, [some (.ref 37), some (.ref 34), some (.int l2), some (.int l3), some (.int l4)], [.int r1, .int l3, .ref 42], (sD D 41 (s1).toNatClampNeg s2), E)) rfl ?_
    refine gv_n hq 1 (S' := (82, [some (.ref 37), some (.ref 34), some (.int l2), some (.int l3), some (.int l4)], [.int r1, .int l3, .ref 42], (sD D 41 (s1).toNatClampNeg s2), E)) rfl ?_
    refine gv_is hq rfl rfl h 83 rfl (fun h => ?_)
    refine gv_n hq 2 (S' := (2, [some (.ref 37), some (.ref 34), some (.int l2), some (.int (l3 + (nI 1))), some (.int l4)], [], (sD (sD D 41 (s1).toNatClampNeg s2) 42 (l3).toNatClampNeg r1), E)) rfl ?_
    exact gv_w (K2 _ _ _ _ h) (And.intro rfl (And.intro rfl (And.intro rfl (And.intro rfl trivial))))
def b_Sawing_measure_32 (F : Nat) (k2 : Int32 → Int32 → mx_D → Option (mx_D)) (l2 : Int32) (l3 : Int32) (l4 : Int32) (s1 : Int32) (s2 : Int32) (D : mx_D) : Option (mx_D) := (rk 4 s1 (rk 4 l3 (if ((sD D 40 (s1).toNatClampNeg (vp_nar .boolean s2)) 40 (l3).toNatClampNeg) = 0 then (b_Sawing_measure_57 F k2 l2 l3 l4 l3 (nI 0) (sD D 40 (s1).toNatClampNeg (vp_nar .boolean s2))) else (Option.bind (g_Heights_lowestOf F (sD D 40 (s1).toNatClampNeg (vp_nar .boolean s2)) l4) (fun r2 => (b_Sawing_measure_57 F k2 l2 l3 l4 l3 r2 (sD D 40 (s1).toNatClampNeg (vp_nar .boolean s2))))))))
set_option maxRecDepth 100000 in
set_option maxHeartbeats 4000000 in
theorem tb_Sawing_measure_32 (X : ev_X) (F : Nat) (d : Nat) (hd : 2 ≤ d + 1) (E : mx_E) (k2 : Int32 → Int32 → mx_D → Option (mx_D)) (K2 : ∀ (l2 : Int32) (l3 : Int32) (D : mx_D) (v : mx_D), k2 l2 l3 D = some v → ev X (d + 1) 85 (2, [some (.ref 37), some (.ref 34), some (.int l2), some (.int l3), none], [], D, E) (qR none v E)) (l2 : Int32) (l3 : Int32) (l4 : Int32) (s1 : Int32) (s2 : Int32) (D : mx_D) (v : mx_D) (h : b_Sawing_measure_32 F k2 l2 l3 l4 s1 s2 D = some v) : ev X (d + 1) 85 (32, [some (.ref 37), some (.ref 34), some (.int l2), some (.int l3), some (.int l4)], [.int s2, .int s1, .ref 40], D, E) (qR none v E) := by
  have hq : kq_m 85 = some kq_q85 := rfl
  unfold b_Sawing_measure_32 at h
  refine gv_bs2 hq rfl rfl h 33 rfl (fun h => ?_)
  refine gv_n hq 6 (S' := (43, [some (.ref 37), some (.ref 34), some (.int l2), some (.int l3), some (.int l4)], [.int l3, .ref 40, .int l3, .ref 41], (sD D 40 (s1).toNatClampNeg (vp_nar .boolean s2)), E)) rfl ?_
  refine gv_ba2 hq rfl rfl h 44 rfl (fun h => ?_)
  refine gv_b hq rfl h 56 47 rfl rfl rfl (fun h => ?_) (fun h => ?_)
  · refine gv_n hq 1 (S' := (57, [some (.ref 37), some (.ref 34), some (.int l2), some (.int l3), some (.int l4)], [.int (nI 0), .int l3, .ref 41], (sD D 40 (s1).toNatClampNeg (vp_nar .boolean s2)), E)) rfl ?_
    exact gv_w (tb_Sawing_measure_57 X F d hd E k2 K2 _ _ _ _ _ _ _ h) (And.intro rfl (And.intro rfl (And.intro rfl (And.intro rfl (And.intro rfl trivial)))))
  · refine gv_n hq 2 (S' := (50, [some (.ref 37), some (.ref 34), some (.int l2), some (.int l3), some (.int l4)], [.int l4, .ref 34, .int l3, .ref 41], (sD D 40 (s1).toNatClampNeg (vp_nar .boolean s2)), E)) rfl ?_
    obtain ⟨r2, h1, h⟩ := Option.bind_eq_some_iff.mp h
    refine gv_d hq rfl rfl rfl rfl rfl (gv_dd (by omega) (t_Heights_lowestOf X F (d - 1) (by omega) (sD D 40 (s1).toNatClampNeg (vp_nar .boolean s2)) E _ _ h1)) (S' := (53, [some (.ref 37), some (.ref 34), some (.int l2), some (.int l3), some (.int l4)], [.int r2, .int l3, .ref 41], (sD D 40 (s1).toNatClampNeg (vp_nar .boolean s2)), E)) rfl ?_
    refine gv_n hq 1 (S' := (57, [some (.ref 37), some (.ref 34), some (.int l2), some (.int l3), some (.int l4)], [.int r2, .int l3, .ref 41], (sD D 40 (s1).toNatClampNeg (vp_nar .boolean s2)), E)) rfl ?_
    exact gv_w (tb_Sawing_measure_57 X F d hd E k2 K2 _ _ _ _ _ _ _ h) (And.intro rfl (And.intro rfl (And.intro rfl (And.intro rfl (And.intro rfl trivial)))))
def b_Sawing_measure_2 (F : Nat) (k2 : Int32 → Int32 → mx_D → Option (mx_D)) (l2 : Int32) (l3 : Int32) (D : mx_D) : Option (mx_D) := (if (nI 4) ≤ l3 then (some D) else (rk 4 l3 (if (l2 &&& (D 36 (l3).toNatClampNeg)) = 0 then (b_Sawing_measure_32 F k2 l2 l3 (l2 &&& (D 36 (l3).toNatClampNeg)) l3 (nI 0) D) else (b_Sawing_measure_32 F k2 l2 l3 (l2 &&& (D 36 (l3).toNatClampNeg)) l3 (nI 1) D))))
set_option maxRecDepth 100000 in
set_option maxHeartbeats 4000000 in
theorem tb_Sawing_measure_2 (X : ev_X) (F : Nat) (d : Nat) (hd : 2 ≤ d + 1) (E : mx_E) (k2 : Int32 → Int32 → mx_D → Option (mx_D)) (K2 : ∀ (l2 : Int32) (l3 : Int32) (D : mx_D) (v : mx_D), k2 l2 l3 D = some v → ev X (d + 1) 85 (2, [some (.ref 37), some (.ref 34), some (.int l2), some (.int l3), none], [], D, E) (qR none v E)) (l2 : Int32) (l3 : Int32) (D : mx_D) (v : mx_D) (h : b_Sawing_measure_2 F k2 l2 l3 D = some v) : ev X (d + 1) 85 (2, [some (.ref 37), some (.ref 34), some (.int l2), some (.int l3), none], [], D, E) (qR none v E) := by
  have hq : kq_m 85 = some kq_q85 := rfl
  unfold b_Sawing_measure_2 at h
  refine gv_n hq 2 (S' := (4, [some (.ref 37), some (.ref 34), some (.int l2), some (.int l3), none], [.int (nI 4), .int l3], D, E)) rfl ?_
  refine gv_b hq rfl h 89 7 rfl rfl rfl (fun h => ?_) (fun h => ?_)
  · cases h
    exact ev_ret hq rfl rfl ⟨rfl, rfl, rfl⟩
  · refine gv_n hq 4 (S' := (13, [some (.ref 37), some (.ref 34), some (.int l2), some (.int l3), none], [.int l3, .ref 36, .int l2], D, E)) rfl ?_
    refine gv_ia hq rfl rfl rfl h 14 rfl (fun h => ?_)
    refine gv_n hq 6 (S' := (24, [some (.ref 37), some (.ref 34), some (.int l2), some (.int l3), some (.int (l2 &&& (D 36 (l3).toNatClampNeg)))], [.int (l2 &&& (D 36 (l3).toNatClampNeg)), .int l3, .ref 40], D, E)) rfl ?_
    refine gv_b hq rfl h 31 27 rfl rfl rfl (fun h => ?_) (fun h => ?_)
    · refine gv_n hq 1 (S' := (32, [some (.ref 37), some (.ref 34), some (.int l2), some (.int l3), some (.int (l2 &&& (D 36 (l3).toNatClampNeg)))], [.int (nI 0), .int l3, .ref 40], D, E)) rfl ?_
      exact gv_w (tb_Sawing_measure_32 X F d hd E k2 K2 _ _ _ _ _ _ _ h) (And.intro rfl (And.intro rfl (And.intro rfl (And.intro rfl (And.intro rfl trivial)))))
    · refine gv_n hq 2 (S' := (32, [some (.ref 37), some (.ref 34), some (.int l2), some (.int l3), some (.int (l2 &&& (D 36 (l3).toNatClampNeg)))], [.int (nI 1), .int l3, .ref 40], D, E)) rfl ?_
      exact gv_w (tb_Sawing_measure_32 X F d hd E k2 K2 _ _ _ _ _ _ _ h) (And.intro rfl (And.intro rfl (And.intro rfl (And.intro rfl (And.intro rfl trivial)))))
def g_Sawing_measure_2 (F : Nat) : Nat → Int32 → Int32 → mx_D → Option (mx_D) := it (fun k2 => b_Sawing_measure_2 F k2) (fun _ _ _ => none)
set_option maxRecDepth 100000 in
set_option maxHeartbeats 4000000 in
theorem t_Sawing_measure_2 (X : ev_X) (F : Nat) (d : Nat) (hd : 2 ≤ d + 1) (E : mx_E)  : ∀ (n : Nat) (l2 : Int32) (l3 : Int32) (D : mx_D) (v : mx_D), g_Sawing_measure_2 F n l2 l3 D = some v → ev X (d + 1) 85 (2, [some (.ref 37), some (.ref 34), some (.int l2), some (.int l3), none], [], D, E) (qR none v E) := by
  intro n
  induction n with
  | zero => intro l2 l3 D v h; cases h
  | succ n ih => intro l2 l3 D v h; exact tb_Sawing_measure_2 X F d hd E (g_Sawing_measure_2 F n) ih l2 l3 D v h
def g_Sawing_measure (F : Nat) (a2 : Int32) (D : mx_D) : Option (mx_D) := (g_Sawing_measure_2 F F a2 (nI 0) D)
set_option maxRecDepth 100000 in
set_option maxHeartbeats 4000000 in
theorem t_Sawing_measure (X : ev_X) (F : Nat) (d : Nat) (hd : 2 ≤ d + 1) (E : mx_E) (a2 : Int32) (D : mx_D) (v : mx_D) (h : g_Sawing_measure F a2 D = some v) : ev X (d + 1) 85 (0, [some (.ref 37), some (.ref 34), some (.int a2), none, none], [], D, E) (qR none v E) := by
  have hq : kq_m 85 = some kq_q85 := rfl
  unfold g_Sawing_measure at h
  refine gv_n hq 2 (S' := (2, [some (.ref 37), some (.ref 34), some (.int a2), some (.int (nI 0)), none], [], D, E)) rfl ?_
  exact gv_w (t_Sawing_measure_2 X F d hd E F _ _ _ _ h) (And.intro rfl (And.intro rfl (And.intro rfl (And.intro rfl trivial))))
def b_Sawing_lowestNow_41 (F : Nat) (D : mx_D) (k6 : Int32 → Int32 → Int32 → Option (Int32)) (l3 : Int32) : Option (Int32) := (rk 4 l3 (rk 4 l3 (k6 ((D 41 (l3).toNatClampNeg) - (D 38 (l3).toNatClampNeg)) (nI 1) (l3 + (nI 1)))))
set_option maxRecDepth 100000 in
set_option maxHeartbeats 4000000 in
theorem tb_Sawing_lowestNow_41 (X : ev_X) (F : Nat) (d : Nat) (D : mx_D) (E : mx_E) (k6 : Int32 → Int32 → Int32 → Option (Int32)) (K6 : ∀ (l1 : Int32) (l2 : Int32) (l3 : Int32) (v : Int32), k6 l1 l2 l3 = some v → ev X d 86 (6, [some (.ref 37), some (.int l1), some (.int l2), some (.int l3)], [], D, E) (qR (some (.int v)) D E)) (l3 : Int32) (v : Int32) (h : b_Sawing_lowestNow_41 F D k6 l3 = some v) : ev X d 86 (41, [some (.ref 37), none, none, some (.int l3)], [], D, E) (qR (some (.int v)) D E) := by
  have hq : kq_m 86 = some kq_q86 := rfl
  unfold b_Sawing_lowestNow_41 at h
  refine gv_n hq 3 (S' := (46, [some (.ref 37), none, none, some (.int l3)], [.int l3, .ref 41], D, E)) rfl ?_
  refine gv_ia hq rfl rfl rfl h 47 rfl (fun h => ?_)
  refine gv_n hq 3 (S' := (52, [some (.ref 37), none, none, some (.int l3)], [.int l3, .ref 38, .int (D 41 (l3).toNatClampNeg)], D, E)) rfl ?_
  refine gv_ia hq rfl rfl rfl h 53 rfl (fun h => ?_)
  refine gv_n hq 6 (S' := (6, [some (.ref 37), some (.int ((D 41 (l3).toNatClampNeg) - (D 38 (l3).toNatClampNeg))), some (.int (nI 1)), some (.int (l3 + (nI 1)))], [], D, E)) rfl ?_
  exact gv_w (K6 _ _ _ _ h) (And.intro rfl (And.intro rfl (And.intro rfl (And.intro rfl trivial))))
def b_Sawing_lowestNow_6 (F : Nat) (D : mx_D) (k6 : Int32 → Int32 → Int32 → Option (Int32)) (l1 : Int32) (l2 : Int32) (l3 : Int32) : Option (Int32) := (if (nI 4) ≤ l3 then (some l1) else (rk 4 l3 (if (D 40 (l3).toNatClampNeg) = 0 then (k6 l1 l2 (l3 + (nI 1))) else (if l2 = 0 then (b_Sawing_lowestNow_41 F D k6 l3) else (rk 4 l3 (rk 4 l3 (if l1 ≤ ((D 41 (l3).toNatClampNeg) - (D 38 (l3).toNatClampNeg)) then (k6 l1 l2 (l3 + (nI 1))) else (b_Sawing_lowestNow_41 F D k6 l3))))))))
set_option maxRecDepth 100000 in
set_option maxHeartbeats 4000000 in
theorem tb_Sawing_lowestNow_6 (X : ev_X) (F : Nat) (d : Nat) (D : mx_D) (E : mx_E) (k6 : Int32 → Int32 → Int32 → Option (Int32)) (K6 : ∀ (l1 : Int32) (l2 : Int32) (l3 : Int32) (v : Int32), k6 l1 l2 l3 = some v → ev X d 86 (6, [some (.ref 37), some (.int l1), some (.int l2), some (.int l3)], [], D, E) (qR (some (.int v)) D E)) (l1 : Int32) (l2 : Int32) (l3 : Int32) (v : Int32) (h : b_Sawing_lowestNow_6 F D k6 l1 l2 l3 = some v) : ev X d 86 (6, [some (.ref 37), some (.int l1), some (.int l2), some (.int l3)], [], D, E) (qR (some (.int v)) D E) := by
  have hq : kq_m 86 = some kq_q86 := rfl
  unfold b_Sawing_lowestNow_6 at h
  refine gv_n hq 2 (S' := (8, [some (.ref 37), some (.int l1), some (.int l2), some (.int l3)], [.int (nI 4), .int l3], D, E)) rfl ?_
  refine gv_b hq rfl h 63 11 rfl rfl rfl (fun h => ?_) (fun h => ?_)
  · refine gv_n hq 1 (S' := (64, [some (.ref 37), some (.int l1), some (.int l2), some (.int l3)], [.int l1], D, E)) rfl ?_
    cases h
    exact ev_ret hq rfl rfl ⟨rfl, rfl, rfl⟩
  · refine gv_n hq 3 (S' := (16, [some (.ref 37), some (.int l1), some (.int l2), some (.int l3)], [.int l3, .ref 40], D, E)) rfl ?_
    refine gv_ba2 hq rfl rfl h 17 rfl (fun h => ?_)
    refine gv_b hq rfl h 57 20 rfl rfl rfl (fun h => ?_) (fun h => ?_)
    · refine gv_n hq 2 (S' := (6, [some (.ref 37), some (.int l1), some (.int l2), some (.int (l3 + (nI 1)))], [], D, E)) rfl ?_
      exact gv_w (K6 _ _ _ _ h) (And.intro rfl (And.intro rfl (And.intro rfl (And.intro rfl trivial))))
    · refine gv_n hq 1 (S' := (21, [some (.ref 37), some (.int l1), some (.int l2), some (.int l3)], [.int l2], D, E)) rfl ?_
      refine gv_b hq rfl h 41 24 rfl rfl rfl (fun h => ?_) (fun h => ?_)
      · exact gv_w (tb_Sawing_lowestNow_41 X F d D E k6 K6 _ _ h) (And.intro rfl (And.intro rfl trivial))
      · refine gv_n hq 3 (S' := (29, [some (.ref 37), some (.int l1), some (.int l2), some (.int l3)], [.int l3, .ref 41], D, E)) rfl ?_
        refine gv_ia hq rfl rfl rfl h 30 rfl (fun h => ?_)
        refine gv_n hq 3 (S' := (35, [some (.ref 37), some (.int l1), some (.int l2), some (.int l3)], [.int l3, .ref 38, .int (D 41 (l3).toNatClampNeg)], D, E)) rfl ?_
        refine gv_ia hq rfl rfl rfl h 36 rfl (fun h => ?_)
        refine gv_n hq 2 (S' := (38, [some (.ref 37), some (.int l1), some (.int l2), some (.int l3)], [.int l1, .int ((D 41 (l3).toNatClampNeg) - (D 38 (l3).toNatClampNeg))], D, E)) rfl ?_
        refine gv_b hq rfl h 57 41 rfl rfl rfl (fun h => ?_) (fun h => ?_)
        · refine gv_n hq 2 (S' := (6, [some (.ref 37), some (.int l1), some (.int l2), some (.int (l3 + (nI 1)))], [], D, E)) rfl ?_
          exact gv_w (K6 _ _ _ _ h) (And.intro rfl (And.intro rfl (And.intro rfl (And.intro rfl trivial))))
        · exact gv_w (tb_Sawing_lowestNow_41 X F d D E k6 K6 _ _ h) (And.intro rfl (And.intro rfl trivial))
def g_Sawing_lowestNow_6 (F : Nat) (D : mx_D) : Nat → Int32 → Int32 → Int32 → Option (Int32) := it (fun k6 => b_Sawing_lowestNow_6 F D k6) (fun _ _ _ => none)
set_option maxRecDepth 100000 in
set_option maxHeartbeats 4000000 in
theorem t_Sawing_lowestNow_6 (X : ev_X) (F : Nat) (d : Nat) (D : mx_D) (E : mx_E)  : ∀ (n : Nat) (l1 : Int32) (l2 : Int32) (l3 : Int32) (v : Int32), g_Sawing_lowestNow_6 F D n l1 l2 l3 = some v → ev X d 86 (6, [some (.ref 37), some (.int l1), some (.int l2), some (.int l3)], [], D, E) (qR (some (.int v)) D E) := by
  intro n
  induction n with
  | zero => intro l1 l2 l3 v h; cases h
  | succ n ih => intro l1 l2 l3 v h; exact tb_Sawing_lowestNow_6 X F d D E (g_Sawing_lowestNow_6 F D n) ih l1 l2 l3 v h
def g_Sawing_lowestNow (F : Nat) (D : mx_D) : Option (Int32) := (g_Sawing_lowestNow_6 F D F (nI 0) (nI 0) (nI 0))
set_option maxRecDepth 100000 in
set_option maxHeartbeats 4000000 in
theorem t_Sawing_lowestNow (X : ev_X) (F : Nat) (d : Nat) (D : mx_D) (E : mx_E) (v : Int32) (h : g_Sawing_lowestNow F D = some v) : ev X d 86 (0, [some (.ref 37), none, none, none], [], D, E) (qR (some (.int v)) D E) := by
  have hq : kq_m 86 = some kq_q86 := rfl
  unfold g_Sawing_lowestNow at h
  refine gv_n hq 6 (S' := (6, [some (.ref 37), some (.int (nI 0)), some (.int (nI 0)), some (.int (nI 0))], [], D, E)) rfl ?_
  exact gv_w (t_Sawing_lowestNow_6 X F d D E F _ _ _ _ h) (And.intro rfl (And.intro rfl (And.intro rfl (And.intro rfl trivial))))
def b_Sawing_settle_52 (F : Nat) (k31 : Int32 → Int32 → mx_D → Option (Int32 × mx_D)) (k52 : Int32 → Int32 → Int32 → Int32 → Int32 → mx_D → Option (Int32 × mx_D)) (l3 : Int32) (l4 : Int32) (l5 : Int32) (l6 : Int32) (l7 : Int32) (D : mx_D) : Option (Int32 × mx_D) := (if (nI 4) ≤ l7 then (if l6 = 0 then (some ((nI 1), D)) else (k31 l3 (l4 + (nI 1)) D)) else (rk 4 l7 (if (D 40 (l7).toNatClampNeg) = 0 then (k52 l3 l4 l5 l6 (l7 + (nI 1)) D) else (rk 4 l7 (rk 4 l7 (if ((D 42 (l7).toNatClampNeg) - (D 38 (l7).toNatClampNeg)) ≤ l5 then (k52 l3 l4 l5 l6 (l7 + (nI 1)) D) else (rk 4 l7 (rk 4 l7 (rk 4 l7 (rk 4 l7 (if ((sD D 38 (l7).toNatClampNeg ((D 42 (l7).toNatClampNeg) - l5)) 38 (l7).toNatClampNeg) ≤ ((sD D 38 (l7).toNatClampNeg ((D 42 (l7).toNatClampNeg) - l5)) 39 (l7).toNatClampNeg) then (k52 l3 l4 l5 (nI 1) (l7 + (nI 1)) (sD D 38 (l7).toNatClampNeg ((D 42 (l7).toNatClampNeg) - l5))) else (some ((nI 0), (sD D 38 (l7).toNatClampNeg ((D 42 (l7).toNatClampNeg) - l5)))))))))))))))
set_option maxRecDepth 100000 in
set_option maxHeartbeats 4000000 in
theorem tb_Sawing_settle_52 (X : ev_X) (F : Nat) (d : Nat) (hd : 4 ≤ d + 1) (E : mx_E) (k31 : Int32 → Int32 → mx_D → Option (Int32 × mx_D)) (k52 : Int32 → Int32 → Int32 → Int32 → Int32 → mx_D → Option (Int32 × mx_D)) (K31 : ∀ (l3 : Int32) (l4 : Int32) (D : mx_D) (v : Int32 × mx_D), k31 l3 l4 D = some v → ev X (d + 1) 84 (31, [some (.ref 37), none, none, some (.int l3), some (.int l4), none, none, none], [], D, E) (qR (some (.int v.1)) v.2 E)) (K52 : ∀ (l3 : Int32) (l4 : Int32) (l5 : Int32) (l6 : Int32) (l7 : Int32) (D : mx_D) (v : Int32 × mx_D), k52 l3 l4 l5 l6 l7 D = some v → ev X (d + 1) 84 (52, [some (.ref 37), none, none, some (.int l3), some (.int l4), some (.int l5), some (.int l6), some (.int l7)], [], D, E) (qR (some (.int v.1)) v.2 E)) (l3 : Int32) (l4 : Int32) (l5 : Int32) (l6 : Int32) (l7 : Int32) (D : mx_D) (v : Int32 × mx_D) (h : b_Sawing_settle_52 F k31 k52 l3 l4 l5 l6 l7 D = some v) : ev X (d + 1) 84 (52, [some (.ref 37), none, none, some (.int l3), some (.int l4), some (.int l5), some (.int l6), some (.int l7)], [], D, E) (qR (some (.int v.1)) v.2 E) := by
  have hq : kq_m 84 = some kq_q84 := rfl
  unfold b_Sawing_settle_52 at h
  refine gv_n hq 2 (S' := (55, [some (.ref 37), none, none, some (.int l3), some (.int l4), some (.int l5), some (.int l6), some (.int l7)], [.int (nI 4), .int l7], D, E)) rfl ?_
  refine gv_b hq rfl h 133 58 rfl rfl rfl (fun h => ?_) (fun h => ?_)
  · refine gv_n hq 1 (S' := (135, [some (.ref 37), none, none, some (.int l3), some (.int l4), some (.int l5), some (.int l6), some (.int l7)], [.int l6], D, E)) rfl ?_
    refine gv_b hq rfl h 138 140 rfl rfl rfl (fun h => ?_) (fun h => ?_)
    · refine gv_n hq 1 (S' := (139, [some (.ref 37), none, none, some (.int l3), some (.int l4), some (.int l5), some (.int l6), some (.int l7)], [.int (nI 1)], D, E)) rfl ?_
      cases h
      exact ev_ret hq rfl rfl ⟨rfl, rfl, rfl⟩
    · refine gv_n hq 2 (S' := (31, [some (.ref 37), none, none, some (.int l3), some (.int (l4 + (nI 1))), some (.int l5), some (.int l6), some (.int l7)], [], D, E)) rfl ?_
      exact gv_w (K31 _ _ _ _ h) (And.intro rfl (And.intro rfl (And.intro rfl trivial)))
  · refine gv_n hq 3 (S' := (64, [some (.ref 37), none, none, some (.int l3), some (.int l4), some (.int l5), some (.int l6), some (.int l7)], [.int l7, .ref 40], D, E)) rfl ?_
    refine gv_ba2 hq rfl rfl h 65 rfl (fun h => ?_)
    refine gv_b hq rfl h 127 68 rfl rfl rfl (fun h => ?_) (fun h => ?_)
    · refine gv_n hq 2 (S' := (52, [some (.ref 37), none, none, some (.int l3), some (.int l4), some (.int l5), some (.int l6), some (.int (l7 + (nI 1)))], [], D, E)) rfl ?_
      exact gv_w (K52 _ _ _ _ _ _ _ h) (And.intro rfl (And.intro rfl (And.intro rfl (And.intro rfl (And.intro rfl (And.intro rfl trivial))))))
    · refine gv_n hq 3 (S' := (74, [some (.ref 37), none, none, some (.int l3), some (.int l4), some (.int l5), some (.int l6), some (.int l7)], [.int l7, .ref 42], D, E)) rfl ?_
      refine gv_ia hq rfl rfl rfl h 75 rfl (fun h => ?_)
      refine gv_n hq 3 (S' := (81, [some (.ref 37), none, none, some (.int l3), some (.int l4), some (.int l5), some (.int l6), some (.int l7)], [.int l7, .ref 38, .int (D 42 (l7).toNatClampNeg)], D, E)) rfl ?_
      refine gv_ia hq rfl rfl rfl h 82 rfl (fun h => ?_)
      refine gv_n hq 2 (S' := (85, [some (.ref 37), none, none, some (.int l3), some (.int l4), some (.int l5), some (.int l6), some (.int l7)], [.int l5, .int ((D 42 (l7).toNatClampNeg) - (D 38 (l7).toNatClampNeg))], D, E)) rfl ?_
      refine gv_b hq rfl h 127 88 rfl rfl rfl (fun h => ?_) (fun h => ?_)
      · refine gv_n hq 2 (S' := (52, [some (.ref 37), none, none, some (.int l3), some (.int l4), some (.int l5), some (.int l6), some (.int (l7 + (nI 1)))], [], D, E)) rfl ?_
        exact gv_w (K52 _ _ _ _ _ _ _ h) (And.intro rfl (And.intro rfl (And.intro rfl (And.intro rfl (And.intro rfl (And.intro rfl trivial))))))
      · refine gv_n hq 6 (S' := (100, [some (.ref 37), none, none, some (.int l3), some (.int l4), some (.int l5), some (.int l6), some (.int l7)], [.int l7, .ref 42, .int l7, .ref 38], D, E)) rfl ?_
        refine gv_ia hq rfl rfl rfl h 101 rfl (fun h => ?_)
        refine gv_n hq 2 (S' := (104, [some (.ref 37), none, none, some (.int l3), some (.int l4), some (.int l5), some (.int l6), some (.int l7)], [.int ((D 42 (l7).toNatClampNeg) - l5), .int l7, .ref 38], D, E)) rfl ?_
        refine gv_is hq rfl rfl h 105 rfl (fun h => ?_)
        refine gv_n hq 5 (S' := (114, [some (.ref 37), none, none, some (.int l3), some (.int l4), some (.int l5), some (.int (nI 1)), some (.int l7)], [.int l7, .ref 38], (sD D 38 (l7).toNatClampNeg ((D 42 (l7).toNatClampNeg) - l5)), E)) rfl ?_
        refine gv_ia hq rfl rfl rfl h 115 rfl (fun h => ?_)
        refine gv_n hq 3 (S' := (121, [some (.ref 37), none, none, some (.int l3), some (.int l4), some (.int l5), some (.int (nI 1)), some (.int l7)], [.int l7, .ref 39, .int ((sD D 38 (l7).toNatClampNeg ((D 42 (l7).toNatClampNeg) - l5)) 38 (l7).toNatClampNeg)], (sD D 38 (l7).toNatClampNeg ((D 42 (l7).toNatClampNeg) - l5)), E)) rfl ?_
        refine gv_ia hq rfl rfl rfl h 122 rfl (fun h => ?_)
        refine gv_b hq rfl h 127 125 rfl rfl rfl (fun h => ?_) (fun h => ?_)
        · refine gv_n hq 2 (S' := (52, [some (.ref 37), none, none, some (.int l3), some (.int l4), some (.int l5), some (.int (nI 1)), some (.int (l7 + (nI 1)))], [], (sD D 38 (l7).toNatClampNeg ((D 42 (l7).toNatClampNeg) - l5)), E)) rfl ?_
          exact gv_w (K52 _ _ _ _ _ _ _ h) (And.intro rfl (And.intro rfl (And.intro rfl (And.intro rfl (And.intro rfl (And.intro rfl trivial))))))
        · refine gv_n hq 1 (S' := (126, [some (.ref 37), none, none, some (.int l3), some (.int l4), some (.int l5), some (.int (nI 1)), some (.int l7)], [.int (nI 0)], (sD D 38 (l7).toNatClampNeg ((D 42 (l7).toNatClampNeg) - l5)), E)) rfl ?_
          cases h
          exact ev_ret hq rfl rfl ⟨rfl, rfl, rfl⟩
def g_Sawing_settle_52 (F : Nat) (k31 : Int32 → Int32 → mx_D → Option (Int32 × mx_D)) : Nat → Int32 → Int32 → Int32 → Int32 → Int32 → mx_D → Option (Int32 × mx_D) := it (fun k52 => b_Sawing_settle_52 F k31 k52) (fun _ _ _ _ _ _ => none)
set_option maxRecDepth 100000 in
set_option maxHeartbeats 4000000 in
theorem t_Sawing_settle_52 (X : ev_X) (F : Nat) (d : Nat) (hd : 4 ≤ d + 1) (E : mx_E) (k31 : Int32 → Int32 → mx_D → Option (Int32 × mx_D)) (K31 : ∀ (l3 : Int32) (l4 : Int32) (D : mx_D) (v : Int32 × mx_D), k31 l3 l4 D = some v → ev X (d + 1) 84 (31, [some (.ref 37), none, none, some (.int l3), some (.int l4), none, none, none], [], D, E) (qR (some (.int v.1)) v.2 E)) : ∀ (n : Nat) (l3 : Int32) (l4 : Int32) (l5 : Int32) (l6 : Int32) (l7 : Int32) (D : mx_D) (v : Int32 × mx_D), g_Sawing_settle_52 F k31 n l3 l4 l5 l6 l7 D = some v → ev X (d + 1) 84 (52, [some (.ref 37), none, none, some (.int l3), some (.int l4), some (.int l5), some (.int l6), some (.int l7)], [], D, E) (qR (some (.int v.1)) v.2 E) := by
  intro n
  induction n with
  | zero => intro l3 l4 l5 l6 l7 D v h; cases h
  | succ n ih => intro l3 l4 l5 l6 l7 D v h; exact tb_Sawing_settle_52 X F d hd E k31 (g_Sawing_settle_52 F k31 n) K31 ih l3 l4 l5 l6 l7 D v h
def b_Sawing_settle_31 (F : Nat) (k31 : Int32 → Int32 → mx_D → Option (Int32 × mx_D)) (l3 : Int32) (l4 : Int32) (D : mx_D) : Option (Int32 × mx_D) := (if (nI 40) ≤ l4 then (some ((nI 0), D)) else (Option.bind (g_Sawing_lowestNow F D) (fun r3 => (g_Sawing_settle_52 F k31 F l3 l4 (r3 + l3) (nI 0) (nI 0) D))))
set_option maxRecDepth 100000 in
set_option maxHeartbeats 4000000 in
theorem tb_Sawing_settle_31 (X : ev_X) (F : Nat) (d : Nat) (hd : 4 ≤ d + 1) (E : mx_E) (k31 : Int32 → Int32 → mx_D → Option (Int32 × mx_D)) (K31 : ∀ (l3 : Int32) (l4 : Int32) (D : mx_D) (v : Int32 × mx_D), k31 l3 l4 D = some v → ev X (d + 1) 84 (31, [some (.ref 37), none, none, some (.int l3), some (.int l4), none, none, none], [], D, E) (qR (some (.int v.1)) v.2 E)) (l3 : Int32) (l4 : Int32) (D : mx_D) (v : Int32 × mx_D) (h : b_Sawing_settle_31 F k31 l3 l4 D = some v) : ev X (d + 1) 84 (31, [some (.ref 37), none, none, some (.int l3), some (.int l4), none, none, none], [], D, E) (qR (some (.int v.1)) v.2 E) := by
  have hq : kq_m 84 = some kq_q84 := rfl
  unfold b_Sawing_settle_31 at h
  refine gv_n hq 2 (S' := (35, [some (.ref 37), none, none, some (.int l3), some (.int l4), none, none, none], [.int (nI 40), .int l4], D, E)) rfl ?_
  refine gv_b hq rfl h 146 38 rfl rfl rfl (fun h => ?_) (fun h => ?_)
  · refine gv_n hq 1 (S' := (147, [some (.ref 37), none, none, some (.int l3), some (.int l4), none, none, none], [.int (nI 0)], D, E)) rfl ?_
    cases h
    exact ev_ret hq rfl rfl ⟨rfl, rfl, rfl⟩
  · refine gv_n hq 1 (S' := (39, [some (.ref 37), none, none, some (.int l3), some (.int l4), none, none, none], [.ref 37], D, E)) rfl ?_
    obtain ⟨r3, h1, h⟩ := Option.bind_eq_some_iff.mp h
    refine gv_d hq rfl rfl rfl rfl rfl ((t_Sawing_lowestNow X F d D E _ h1)) (S' := (42, [some (.ref 37), none, none, some (.int l3), some (.int l4), none, none, none], [.int r3], D, E)) rfl ?_
    refine gv_n hq 7 (S' := (52, [some (.ref 37), none, none, some (.int l3), some (.int l4), some (.int (r3 + l3)), some (.int (nI 0)), some (.int (nI 0))], [], D, E)) rfl ?_
    exact gv_w (t_Sawing_settle_52 X F d hd E k31 K31 F _ _ _ _ _ _ _ h) (And.intro rfl (And.intro rfl (And.intro rfl (And.intro rfl (And.intro rfl (And.intro rfl trivial))))))
def g_Sawing_settle_31 (F : Nat) : Nat → Int32 → Int32 → mx_D → Option (Int32 × mx_D) := it (fun k31 => b_Sawing_settle_31 F k31) (fun _ _ _ => none)
set_option maxRecDepth 100000 in
set_option maxHeartbeats 4000000 in
theorem t_Sawing_settle_31 (X : ev_X) (F : Nat) (d : Nat) (hd : 4 ≤ d + 1) (E : mx_E)  : ∀ (n : Nat) (l3 : Int32) (l4 : Int32) (D : mx_D) (v : Int32 × mx_D), g_Sawing_settle_31 F n l3 l4 D = some v → ev X (d + 1) 84 (31, [some (.ref 37), none, none, some (.int l3), some (.int l4), none, none, none], [], D, E) (qR (some (.int v.1)) v.2 E) := by
  intro n
  induction n with
  | zero => intro l3 l4 D v h; cases h
  | succ n ih => intro l3 l4 D v h; exact tb_Sawing_settle_31 X F d hd E (g_Sawing_settle_31 F n) ih l3 l4 D v h
def g_Sawing_settle (F : Nat) (a2 : Int32) (a3 : Int32) (D : mx_D) : Option (Int32 × mx_D) := (if (D 34 3) = 0 then (Option.bind (g_Heights_apart F D a2) (fun r1 => (if a3 < r1 then (some ((nI 0), D)) else (some ((nI 1), D))))) else (Option.bind (g_Sawing_measure F a2 D) (fun r2 => (g_Sawing_settle_31 F F a3 (nI 0) r2))))
set_option maxRecDepth 100000 in
set_option maxHeartbeats 4000000 in
theorem t_Sawing_settle (X : ev_X) (F : Nat) (d : Nat) (hd : 4 ≤ d + 1) (E : mx_E) (a2 : Int32) (a3 : Int32) (D : mx_D) (v : Int32 × mx_D) (h : g_Sawing_settle F a2 a3 D = some v) : ev X (d + 1) 84 (0, [some (.ref 37), some (.ref 34), some (.int a2), some (.int a3), none, none, none, none], [], D, E) (qR (some (.int v.1)) v.2 E) := by
  have hq : kq_m 84 = some kq_q84 := rfl
  unfold g_Sawing_settle at h
  refine gv_n hq 2 (S' := (4, [some (.ref 37), some (.ref 34), some (.int a2), some (.int a3), none, none, none, none], [.int (D 34 3)], D, E)) rfl ?_
  refine gv_b hq rfl h 7 22 rfl rfl rfl (fun h => ?_) (fun h => ?_)
  · refine gv_n hq 2 (S' := (9, [some (.ref 37), some (.ref 34), some (.int a2), some (.int a3), none, none, none, none], [.int a2, .ref 34], D, E)) rfl ?_
    obtain ⟨r1, h1, h⟩ := Option.bind_eq_some_iff.mp h
    refine gv_d hq rfl rfl rfl rfl rfl (gv_dd (by omega) (t_Heights_apart X F (d - 1) (by omega) D E _ _ h1)) (S' := (12, [some (.ref 37), some (.ref 34), some (.int a2), some (.int a3), none, none, none, none], [.int r1], D, E)) rfl ?_
    refine gv_n hq 1 (S' := (13, [some (.ref 37), some (.ref 34), some (.int a2), some (.int a3), none, none, none, none], [.int a3, .int r1], D, E)) rfl ?_
    refine gv_b hq rfl h 20 16 rfl rfl rfl (fun h => ?_) (fun h => ?_)
    · refine gv_n hq 1 (S' := (21, [some (.ref 37), some (.ref 34), some (.int a2), some (.int a3), none, none, none, none], [.int (nI 0)], D, E)) rfl ?_
      cases h
      exact ev_ret hq rfl rfl ⟨rfl, rfl, rfl⟩
    · refine gv_n hq 2 (S' := (21, [some (.ref 37), some (.ref 34), some (.int a2), some (.int a3), none, none, none, none], [.int (nI 1)], D, E)) rfl ?_
      cases h
      exact ev_ret hq rfl rfl ⟨rfl, rfl, rfl⟩
  · refine gv_n hq 3 (S' := (25, [some (.ref 37), some (.ref 34), some (.int a2), some (.int a3), none, none, none, none], [.int a2, .ref 34, .ref 37], D, E)) rfl ?_
    obtain ⟨r2, h1, h⟩ := Option.bind_eq_some_iff.mp h
    refine gv_d hq rfl rfl rfl rfl rfl (gv_dd (by omega) (t_Sawing_measure X F (d - 1) (by omega) E _ _ _ h1)) (S' := (28, [some (.ref 37), some (.ref 34), some (.int a2), some (.int a3), none, none, none, none], [], r2, E)) rfl ?_
    refine gv_n hq 2 (S' := (31, [some (.ref 37), some (.ref 34), some (.int a2), some (.int a3), some (.int (nI 0)), none, none, none], [], r2, E)) rfl ?_
    exact gv_w (t_Sawing_settle_31 X F d hd E F _ _ _ _ h) (And.intro rfl (And.intro rfl (And.intro rfl trivial)))
def b_X_sawAsLongAsCan_13 (F : Nat) (k13 : Int32 → Int32 → mx_D → Option (Int32 × mx_D)) (l2 : Int32) (l3 : Int32) (D : mx_D) : Option (Int32 × mx_D) := (if l2 < l3 then (some (l2, D)) else (Option.bind (g_Heights_take F l3 D) (fun r2 => (Option.bind (g_Sawing_settle F (r2 34 2) (r2 19 2) r2) (fun r3 => (if r3.1 = 0 then (some ((l3 - (nI 1)), r3.2)) else (k13 l2 (l3 + (nI 1)) r3.2)))))))
set_option maxRecDepth 100000 in
set_option maxHeartbeats 4000000 in
theorem tb_X_sawAsLongAsCan_13 (X : ev_X) (F : Nat) (d : Nat) (hd : 5 ≤ d + 1) (E : mx_E) (k13 : Int32 → Int32 → mx_D → Option (Int32 × mx_D)) (K13 : ∀ (l2 : Int32) (l3 : Int32) (D : mx_D) (v : Int32 × mx_D), k13 l2 l3 D = some v → ev X (d + 1) 131 (13, [some (.ref 0), none, some (.int l2), some (.int l3)], [], D, E) (qR (some (.int v.1)) v.2 E)) (l2 : Int32) (l3 : Int32) (D : mx_D) (v : Int32 × mx_D) (h : b_X_sawAsLongAsCan_13 F k13 l2 l3 D = some v) : ev X (d + 1) 131 (13, [some (.ref 0), none, some (.int l2), some (.int l3)], [], D, E) (qR (some (.int v.1)) v.2 E) := by
  have hq : kq_m 131 = some kq_q131 := rfl
  unfold b_X_sawAsLongAsCan_13 at h
  refine gv_n hq 2 (S' := (15, [some (.ref 0), none, some (.int l2), some (.int l3)], [.int l2, .int l3], D, E)) rfl ?_
  refine gv_b hq rfl h 68 18 rfl rfl rfl (fun h => ?_) (fun h => ?_)
  · refine gv_n hq 1 (S' := (69, [some (.ref 0), none, some (.int l2), some (.int l3)], [.int l2], D, E)) rfl ?_
    cases h
    exact ev_ret hq rfl rfl ⟨rfl, rfl, rfl⟩
  · refine gv_n hq 5 (S' := (27, [some (.ref 0), none, some (.int l2), some (.int l3)], [.int l3, .ref 19, .ref 34], D, E)) rfl ?_
    obtain ⟨r2, h1, h⟩ := Option.bind_eq_some_iff.mp h
    refine gv_d hq rfl rfl rfl rfl rfl (gv_dd (by omega) (t_Heights_take X F (d - 1) (by omega) E _ _ _ h1)) (S' := (30, [some (.ref 0), none, some (.int l2), some (.int l3)], [], r2, E)) rfl ?_
    refine gv_n hq 10 (S' := (52, [some (.ref 0), none, some (.int l2), some (.int l3)], [.int (r2 19 2), .int (r2 34 2), .ref 34, .ref 37], r2, E)) rfl ?_
    obtain ⟨r3, h1, h⟩ := Option.bind_eq_some_iff.mp h
    refine gv_d hq rfl rfl rfl rfl rfl (gv_dd (by omega) (t_Sawing_settle X F (d - 1) (by omega) E _ _ _ _ h1)) (S' := (55, [some (.ref 0), none, some (.int l2), some (.int l3)], [.int r3.1], r3.2, E)) rfl ?_
    refine gv_b hq rfl h 58 62 rfl rfl rfl (fun h => ?_) (fun h => ?_)
    · refine gv_n hq 3 (S' := (61, [some (.ref 0), none, some (.int l2), some (.int l3)], [.int (l3 - (nI 1))], r3.2, E)) rfl ?_
      cases h
      exact ev_ret hq rfl rfl ⟨rfl, rfl, rfl⟩
    · refine gv_n hq 2 (S' := (13, [some (.ref 0), none, some (.int l2), some (.int (l3 + (nI 1)))], [], r3.2, E)) rfl ?_
      exact gv_w (K13 _ _ _ _ h) (And.intro rfl (And.intro rfl (And.intro rfl trivial)))
def g_X_sawAsLongAsCan_13 (F : Nat) : Nat → Int32 → Int32 → mx_D → Option (Int32 × mx_D) := it (fun k13 => b_X_sawAsLongAsCan_13 F k13) (fun _ _ _ => none)
set_option maxRecDepth 100000 in
set_option maxHeartbeats 4000000 in
theorem t_X_sawAsLongAsCan_13 (X : ev_X) (F : Nat) (d : Nat) (hd : 5 ≤ d + 1) (E : mx_E)  : ∀ (n : Nat) (l2 : Int32) (l3 : Int32) (D : mx_D) (v : Int32 × mx_D), g_X_sawAsLongAsCan_13 F n l2 l3 D = some v → ev X (d + 1) 131 (13, [some (.ref 0), none, some (.int l2), some (.int l3)], [], D, E) (qR (some (.int v.1)) v.2 E) := by
  intro n
  induction n with
  | zero => intro l2 l3 D v h; cases h
  | succ n ih => intro l2 l3 D v h; exact tb_X_sawAsLongAsCan_13 X F d hd E (g_X_sawAsLongAsCan_13 F n) ih l2 l3 D v h
def g_X_sawAsLongAsCan (F : Nat) (a1 : Int32) (a2 : Int32) (D : mx_D) : Option (Int32 × mx_D) := (Option.bind (g_Sawing_begin F D) (fun r1 => (g_X_sawAsLongAsCan_13 F F a2 a1 r1)))
set_option maxRecDepth 100000 in
set_option maxHeartbeats 4000000 in
theorem t_X_sawAsLongAsCan (X : ev_X) (F : Nat) (d : Nat) (hd : 5 ≤ d + 1) (E : mx_E) (a1 : Int32) (a2 : Int32) (D : mx_D) (v : Int32 × mx_D) (h : g_X_sawAsLongAsCan F a1 a2 D = some v) : ev X (d + 1) 131 (0, [some (.ref 0), some (.int a1), some (.int a2), none], [], D, E) (qR (some (.int v.1)) v.2 E) := by
  have hq : kq_m 131 = some kq_q131 := rfl
  unfold g_X_sawAsLongAsCan at h
  refine gv_n hq 4 (S' := (8, [some (.ref 0), some (.int a1), some (.int a2), none], [.ref 19, .ref 37], D, E)) rfl ?_
  obtain ⟨r1, h1, h⟩ := Option.bind_eq_some_iff.mp h
  refine gv_d hq rfl rfl rfl rfl rfl ((t_Sawing_begin X F d E _ _ h1)) (S' := (11, [some (.ref 0), some (.int a1), some (.int a2), none], [], r1, E)) rfl ?_
  refine gv_n hq 2 (S' := (13, [some (.ref 0), some (.int a1), some (.int a2), some (.int a1)], [], r1, E)) rfl ?_
  exact gv_w (t_X_sawAsLongAsCan_13 X F d hd E F _ _ _ _ h) (And.intro rfl (And.intro rfl (And.intro rfl trivial)))
def b_Sawing_together_4 (F : Nat) (D : mx_D) (k4 : Int32 → Int32 → Option (Int32)) (l1 : Int32) (l2 : Int32) : Option (Int32) := (if (nI 4) ≤ l2 then (some l1) else (rk 4 l2 (k4 (l1 + (D 38 (l2).toNatClampNeg)) (l2 + (nI 1)))))
set_option maxRecDepth 100000 in
set_option maxHeartbeats 4000000 in
theorem tb_Sawing_together_4 (X : ev_X) (F : Nat) (d : Nat) (D : mx_D) (E : mx_E) (k4 : Int32 → Int32 → Option (Int32)) (K4 : ∀ (l1 : Int32) (l2 : Int32) (v : Int32), k4 l1 l2 = some v → ev X d 87 (4, [some (.ref 37), some (.int l1), some (.int l2)], [], D, E) (qR (some (.int v)) D E)) (l1 : Int32) (l2 : Int32) (v : Int32) (h : b_Sawing_together_4 F D k4 l1 l2 = some v) : ev X d 87 (4, [some (.ref 37), some (.int l1), some (.int l2)], [], D, E) (qR (some (.int v)) D E) := by
  have hq : kq_m 87 = some kq_q87 := rfl
  unfold b_Sawing_together_4 at h
  refine gv_n hq 2 (S' := (6, [some (.ref 37), some (.int l1), some (.int l2)], [.int (nI 4), .int l2], D, E)) rfl ?_
  refine gv_b hq rfl h 24 9 rfl rfl rfl (fun h => ?_) (fun h => ?_)
  · refine gv_n hq 1 (S' := (25, [some (.ref 37), some (.int l1), some (.int l2)], [.int l1], D, E)) rfl ?_
    cases h
    exact ev_ret hq rfl rfl ⟨rfl, rfl, rfl⟩
  · refine gv_n hq 4 (S' := (15, [some (.ref 37), some (.int l1), some (.int l2)], [.int l2, .ref 38, .int l1], D, E)) rfl ?_
    refine gv_ia hq rfl rfl rfl h 16 rfl (fun h => ?_)
    refine gv_n hq 4 (S' := (4, [some (.ref 37), some (.int (l1 + (D 38 (l2).toNatClampNeg))), some (.int (l2 + (nI 1)))], [], D, E)) rfl ?_
    exact gv_w (K4 _ _ _ h) (And.intro rfl (And.intro rfl (And.intro rfl trivial)))
def g_Sawing_together_4 (F : Nat) (D : mx_D) : Nat → Int32 → Int32 → Option (Int32) := it (fun k4 => b_Sawing_together_4 F D k4) (fun _ _ => none)
set_option maxRecDepth 100000 in
set_option maxHeartbeats 4000000 in
theorem t_Sawing_together_4 (X : ev_X) (F : Nat) (d : Nat) (D : mx_D) (E : mx_E)  : ∀ (n : Nat) (l1 : Int32) (l2 : Int32) (v : Int32), g_Sawing_together_4 F D n l1 l2 = some v → ev X d 87 (4, [some (.ref 37), some (.int l1), some (.int l2)], [], D, E) (qR (some (.int v)) D E) := by
  intro n
  induction n with
  | zero => intro l1 l2 v h; cases h
  | succ n ih => intro l1 l2 v h; exact tb_Sawing_together_4 X F d D E (g_Sawing_together_4 F D n) ih l1 l2 v h
def g_Sawing_together (F : Nat) (D : mx_D) : Option (Int32) := (g_Sawing_together_4 F D F (nI 0) (nI 0))
set_option maxRecDepth 100000 in
set_option maxHeartbeats 4000000 in
theorem t_Sawing_together (X : ev_X) (F : Nat) (d : Nat) (D : mx_D) (E : mx_E) (v : Int32) (h : g_Sawing_together F D = some v) : ev X d 87 (0, [some (.ref 37), none, none], [], D, E) (qR (some (.int v)) D E) := by
  have hq : kq_m 87 = some kq_q87 := rfl
  unfold g_Sawing_together at h
  refine gv_n hq 4 (S' := (4, [some (.ref 37), some (.int (nI 0)), some (.int (nI 0))], [], D, E)) rfl ?_
  exact gv_w (t_Sawing_together_4 X F d D E F _ _ _ h) (And.intro rfl (And.intro rfl (And.intro rfl trivial)))
def g_X_saws (F : Nat) (a1 : Int32) (D : mx_D) : Option (Int32 × mx_D) := (if (g_X_canAsk D a1) = 0 then (some ((-2 : Int32), D)) else (Option.bind (g_X_sawAsLongAsCan F a1 a1 D) (fun r1 => (if a1 ≤ r1.1 then (Option.bind (g_Sawing_together F r1.2) (fun r2 => (some (r2, r1.2)))) else (some ((-1 : Int32), r1.2))))))
set_option maxRecDepth 100000 in
set_option maxHeartbeats 4000000 in
theorem t_X_saws (X : ev_X) (F : Nat) (d : Nat) (hd : 6 ≤ d + 1) (E : mx_E) (a1 : Int32) (D : mx_D) (v : Int32 × mx_D) (h : g_X_saws F a1 D = some v) : ev X (d + 1) 130 (0, [some (.ref 0), some (.int a1)], [], D, E) (qR (some (.int v.1)) v.2 E) := by
  have hq : kq_m 130 = some kq_q130 := rfl
  unfold g_X_saws at h
  refine gv_n hq 2 (S' := (2, [some (.ref 0), some (.int a1)], [.int a1, .ref 0], D, E)) rfl ?_
  refine gv_d hq rfl rfl rfl rfl rfl (gv_dd (by omega) (t_X_canAsk X (d - 1) (by omega) D E _ _ rfl)) (S' := (5, [some (.ref 0), some (.int a1)], [.int (g_X_canAsk D a1)], D, E)) rfl ?_
  refine gv_b hq rfl h 8 11 rfl rfl rfl (fun h => ?_) (fun h => ?_)
  · refine gv_n hq 1 (S' := (10, [some (.ref 0), some (.int a1)], [.int (-2 : Int32)], D, E)) rfl ?_
    cases h
    exact ev_ret hq rfl rfl ⟨rfl, rfl, rfl⟩
  · refine gv_n hq 3 (S' := (14, [some (.ref 0), some (.int a1)], [.int a1, .int a1, .ref 0], D, E)) rfl ?_
    obtain ⟨r1, h1, h⟩ := Option.bind_eq_some_iff.mp h
    refine gv_d hq rfl rfl rfl rfl rfl (gv_dd (by omega) (t_X_sawAsLongAsCan X F (d - 1) (by omega) E _ _ _ _ h1)) (S' := (17, [some (.ref 0), some (.int a1)], [.int r1.1], r1.2, E)) rfl ?_
    refine gv_n hq 1 (S' := (18, [some (.ref 0), some (.int a1)], [.int a1, .int r1.1], r1.2, E)) rfl ?_
    refine gv_b hq rfl h 25 21 rfl rfl rfl (fun h => ?_) (fun h => ?_)
    · refine gv_n hq 2 (S' := (29, [some (.ref 0), some (.int a1)], [.ref 37], r1.2, E)) rfl ?_
      obtain ⟨r2, h1, h⟩ := Option.bind_eq_some_iff.mp h
      refine gv_d hq rfl rfl rfl rfl rfl ((t_Sawing_together X F d r1.2 E _ h1)) (S' := (32, [some (.ref 0), some (.int a1)], [.int r2], r1.2, E)) rfl ?_
      cases h
      exact ev_ret hq rfl rfl ⟨rfl, rfl, rfl⟩
    · refine gv_n hq 2 (S' := (32, [some (.ref 0), some (.int a1)], [.int (-1 : Int32)], r1.2, E)) rfl ?_
      cases h
      exact ev_ret hq rfl rfl ⟨rfl, rfl, rfl⟩
def b_M_keepUnsawn_7 (F : Nat) (k7 : Int32 → mx_D → Option (mx_D)) (l2 : Int32) (D : mx_D) : Option (mx_D) := (if (D 117 4) ≤ l2 then (some D) else (rk 8 l2 (rk 8 l2 (k7 (l2 + (nI 1)) (sD D 127 (l2).toNatClampNeg (D 123 (l2).toNatClampNeg))))))
set_option maxRecDepth 100000 in
set_option maxHeartbeats 4000000 in
theorem tb_M_keepUnsawn_7 (X : ev_X) (F : Nat) (d : Nat) (hd : 5 ≤ d + 1) (E : mx_E) (k7 : Int32 → mx_D → Option (mx_D)) (K7 : ∀ (l2 : Int32) (D : mx_D) (v : mx_D), k7 l2 D = some v → ev X (d + 1) 248 (7, [some (.ref 116), none, some (.int l2)], [], D, E) (qR none v E)) (l2 : Int32) (D : mx_D) (v : mx_D) (h : b_M_keepUnsawn_7 F k7 l2 D = some v) : ev X (d + 1) 248 (7, [some (.ref 116), none, some (.int l2)], [], D, E) (qR none v E) := by
  have hq : kq_m 248 = some kq_q248 := rfl
  unfold b_M_keepUnsawn_7 at h
  refine gv_n hq 5 (S' := (14, [some (.ref 116), none, some (.int l2)], [.int (D 117 4), .int l2], D, E)) rfl ?_
  refine gv_b hq rfl h 35 17 rfl rfl rfl (fun h => ?_) (fun h => ?_)
  · cases h
    exact ev_ret hq rfl rfl ⟨rfl, rfl, rfl⟩
  · refine gv_n hq 6 (S' := (27, [some (.ref 116), none, some (.int l2)], [.int l2, .ref 123, .int l2, .ref 127], D, E)) rfl ?_
    refine gv_ia hq rfl rfl rfl h 28 rfl (fun h => ?_)
    refine gv_is hq rfl rfl h 29 rfl (fun h => ?_)
    refine gv_n hq 2 (S' := (7, [some (.ref 116), none, some (.int (l2 + (nI 1)))], [], (sD D 127 (l2).toNatClampNeg (D 123 (l2).toNatClampNeg)), E)) rfl ?_
    exact gv_w (K7 _ _ _ h) (And.intro rfl (And.intro rfl trivial))
def g_M_keepUnsawn_7 (F : Nat) : Nat → Int32 → mx_D → Option (mx_D) := it (fun k7 => b_M_keepUnsawn_7 F k7) (fun _ _ => none)
set_option maxRecDepth 100000 in
set_option maxHeartbeats 4000000 in
theorem t_M_keepUnsawn_7 (X : ev_X) (F : Nat) (d : Nat) (hd : 5 ≤ d + 1) (E : mx_E)  : ∀ (n : Nat) (l2 : Int32) (D : mx_D) (v : mx_D), g_M_keepUnsawn_7 F n l2 D = some v → ev X (d + 1) 248 (7, [some (.ref 116), none, some (.int l2)], [], D, E) (qR none v E) := by
  intro n
  induction n with
  | zero => intro l2 D v h; cases h
  | succ n ih => intro l2 D v h; exact tb_M_keepUnsawn_7 X F d hd E (g_M_keepUnsawn_7 F n) ih l2 D v h
def g_M_keepUnsawn (F : Nat) (a1 : Int32) (D : mx_D) : Option (mx_D) := (Option.bind (g_M_lay F a1 D) (fun r1 => (g_M_keepUnsawn_7 F F (nI 0) r1)))
set_option maxRecDepth 100000 in
set_option maxHeartbeats 4000000 in
theorem t_M_keepUnsawn (X : ev_X) (F : Nat) (d : Nat) (hd : 5 ≤ d + 1) (E : mx_E) (a1 : Int32) (D : mx_D) (v : mx_D) (h : g_M_keepUnsawn F a1 D = some v) : ev X (d + 1) 248 (0, [some (.ref 116), some (.int a1), none], [], D, E) (qR none v E) := by
  have hq : kq_m 248 = some kq_q248 := rfl
  unfold g_M_keepUnsawn at h
  refine gv_n hq 2 (S' := (2, [some (.ref 116), some (.int a1), none], [.int a1, .ref 116], D, E)) rfl ?_
  obtain ⟨r1, h1, h⟩ := Option.bind_eq_some_iff.mp h
  refine gv_d hq rfl rfl rfl rfl rfl (gv_dd (by omega) (t_M_lay X F (d - 1) (by omega) E _ _ _ h1)) (S' := (5, [some (.ref 116), some (.int a1), none], [], r1, E)) rfl ?_
  refine gv_n hq 2 (S' := (7, [some (.ref 116), some (.int a1), some (.int (nI 0))], [], r1, E)) rfl ?_
  exact gv_w (t_M_keepUnsawn_7 X F d hd E F _ _ _ h) (And.intro rfl (And.intro rfl trivial))
def b_M_beginsSawing_2 (F : Nat) (k2 : Int32 → mx_D → Option (mx_D)) (l1 : Int32) (D : mx_D) : Option (mx_D) := (if (nI 4) ≤ l1 then (some D) else (Option.bind (g_M_ofPew D l1 (nI 2)) (fun r1 => (rk 4 l1 (rk 4 l1 (k2 (l1 + (nI 1)) (sD (sD D 124 (l1).toNatClampNeg r1) 125 (l1).toNatClampNeg (nI 0))))))))
set_option maxRecDepth 100000 in
set_option maxHeartbeats 4000000 in
theorem tb_M_beginsSawing_2 (X : ev_X) (F : Nat) (d : Nat) (hd : 1 ≤ d + 1) (E : mx_E) (k2 : Int32 → mx_D → Option (mx_D)) (K2 : ∀ (l1 : Int32) (D : mx_D) (v : mx_D), k2 l1 D = some v → ev X (d + 1) 249 (2, [some (.ref 116), some (.int l1)], [], D, E) (qR none v E)) (l1 : Int32) (D : mx_D) (v : mx_D) (h : b_M_beginsSawing_2 F k2 l1 D = some v) : ev X (d + 1) 249 (2, [some (.ref 116), some (.int l1)], [], D, E) (qR none v E) := by
  have hq : kq_m 249 = some kq_q249 := rfl
  unfold b_M_beginsSawing_2 at h
  refine gv_n hq 2 (S' := (4, [some (.ref 116), some (.int l1)], [.int (nI 4), .int l1], D, E)) rfl ?_
  refine gv_b hq rfl h 32 7 rfl rfl rfl (fun h => ?_) (fun h => ?_)
  · cases h
    exact ev_ret hq rfl rfl ⟨rfl, rfl, rfl⟩
  · refine gv_n hq 6 (S' := (15, [some (.ref 116), some (.int l1)], [.int (nI 2), .int l1, .ref 116, .int l1, .ref 124], D, E)) rfl ?_
    obtain ⟨r1, h1, h⟩ := Option.bind_eq_some_iff.mp h
    refine gv_d hq rfl rfl rfl rfl rfl ((t_M_ofPew X d D E _ _ _ h1)) (S' := (18, [some (.ref 116), some (.int l1)], [.int r1, .int l1, .ref 124], D, E)) rfl ?_
    refine gv_is hq rfl rfl h 19 rfl (fun h => ?_)
    refine gv_n hq 4 (S' := (25, [some (.ref 116), some (.int l1)], [.int (nI 0), .int l1, .ref 125], (sD D 124 (l1).toNatClampNeg r1), E)) rfl ?_
    refine gv_is hq rfl rfl h 26 rfl (fun h => ?_)
    refine gv_n hq 2 (S' := (2, [some (.ref 116), some (.int (l1 + (nI 1)))], [], (sD (sD D 124 (l1).toNatClampNeg r1) 125 (l1).toNatClampNeg (nI 0)), E)) rfl ?_
    exact gv_w (K2 _ _ _ h) (And.intro rfl (And.intro rfl trivial))
def g_M_beginsSawing_2 (F : Nat) : Nat → Int32 → mx_D → Option (mx_D) := it (fun k2 => b_M_beginsSawing_2 F k2) (fun _ _ => none)
set_option maxRecDepth 100000 in
set_option maxHeartbeats 4000000 in
theorem t_M_beginsSawing_2 (X : ev_X) (F : Nat) (d : Nat) (hd : 1 ≤ d + 1) (E : mx_E)  : ∀ (n : Nat) (l1 : Int32) (D : mx_D) (v : mx_D), g_M_beginsSawing_2 F n l1 D = some v → ev X (d + 1) 249 (2, [some (.ref 116), some (.int l1)], [], D, E) (qR none v E) := by
  intro n
  induction n with
  | zero => intro l1 D v h; cases h
  | succ n ih => intro l1 D v h; exact tb_M_beginsSawing_2 X F d hd E (g_M_beginsSawing_2 F n) ih l1 D v h
def g_M_beginsSawing (F : Nat) (D : mx_D) : Option (mx_D) := (g_M_beginsSawing_2 F F (nI 0) D)
set_option maxRecDepth 100000 in
set_option maxHeartbeats 4000000 in
theorem t_M_beginsSawing (X : ev_X) (F : Nat) (d : Nat) (hd : 1 ≤ d + 1) (E : mx_E) (D : mx_D) (v : mx_D) (h : g_M_beginsSawing F D = some v) : ev X (d + 1) 249 (0, [some (.ref 116), none], [], D, E) (qR none v E) := by
  have hq : kq_m 249 = some kq_q249 := rfl
  unfold g_M_beginsSawing at h
  refine gv_n hq 2 (S' := (2, [some (.ref 116), some (.int (nI 0))], [], D, E)) rfl ?_
  exact gv_w (t_M_beginsSawing_2 X F d hd E F _ _ _ h) (And.intro rfl (And.intro rfl trivial))
def b_M_layMore_2 (F : Nat) (k2 : Int32 → mx_D → Option (mx_D)) (l1 : Int32) (D : mx_D) : Option (mx_D) := (if (D 117 4) ≤ l1 then (some D) else (rk 8 l1 (Option.bind (g_M_sits D l1) (fun r1 => (if r1 = 0 then (rk 8 l1 (k2 (l1 + (nI 1)) (sD D 123 (l1).toNatClampNeg ((D 127 (l1).toNatClampNeg) - (nI 0))))) else (Option.bind (g_M_of D l1 (nI 3)) (fun r2 => (rk 4 r2 (rk 8 l1 (k2 (l1 + (nI 1)) (sD D 123 (l1).toNatClampNeg ((D 127 (l1).toNatClampNeg) - (D 125 (r2).toNatClampNeg)))))))))))))
set_option maxRecDepth 100000 in
set_option maxHeartbeats 4000000 in
theorem tb_M_layMore_2 (X : ev_X) (F : Nat) (d : Nat) (hd : 2 ≤ d + 1) (E : mx_E) (k2 : Int32 → mx_D → Option (mx_D)) (K2 : ∀ (l1 : Int32) (D : mx_D) (v : mx_D), k2 l1 D = some v → ev X (d + 1) 250 (2, [some (.ref 116), some (.int l1)], [], D, E) (qR none v E)) (l1 : Int32) (D : mx_D) (v : mx_D) (h : b_M_layMore_2 F k2 l1 D = some v) : ev X (d + 1) 250 (2, [some (.ref 116), some (.int l1)], [], D, E) (qR none v E) := by
  have hq : kq_m 250 = some kq_q250 := rfl
  unfold b_M_layMore_2 at h
  refine gv_n hq 5 (S' := (9, [some (.ref 116), some (.int l1)], [.int (D 117 4), .int l1], D, E)) rfl ?_
  refine gv_b hq rfl h 54 12 rfl rfl rfl (fun h => ?_) (fun h => ?_)
  · cases h
    exact ev_ret hq rfl rfl ⟨rfl, rfl, rfl⟩
  · refine gv_n hq 6 (S' := (22, [some (.ref 116), some (.int l1)], [.int l1, .ref 127, .int l1, .ref 123], D, E)) rfl ?_
    refine gv_ia hq rfl rfl rfl h 23 rfl (fun h => ?_)
    refine gv_n hq 2 (S' := (25, [some (.ref 116), some (.int l1)], [.int l1, .ref 116, .int (D 127 (l1).toNatClampNeg), .int l1, .ref 123], D, E)) rfl ?_
    obtain ⟨r1, h1, h⟩ := Option.bind_eq_some_iff.mp h
    refine gv_d hq rfl rfl rfl rfl rfl (gv_dd (by omega) (t_M_sits X (d - 1) (by omega) D E _ _ h1)) (S' := (28, [some (.ref 116), some (.int l1)], [.int r1, .int (D 127 (l1).toNatClampNeg), .int l1, .ref 123], D, E)) rfl ?_
    refine gv_b hq rfl h 45 31 rfl rfl rfl (fun h => ?_) (fun h => ?_)
    · refine gv_n hq 2 (S' := (47, [some (.ref 116), some (.int l1)], [.int ((D 127 (l1).toNatClampNeg) - (nI 0)), .int l1, .ref 123], D, E)) rfl ?_
      refine gv_is hq rfl rfl h 48 rfl (fun h => ?_)
      refine gv_n hq 2 (S' := (2, [some (.ref 116), some (.int (l1 + (nI 1)))], [], (sD D 123 (l1).toNatClampNeg ((D 127 (l1).toNatClampNeg) - (nI 0))), E)) rfl ?_
      exact gv_w (K2 _ _ _ h) (And.intro rfl (And.intro rfl trivial))
    · refine gv_n hq 5 (S' := (38, [some (.ref 116), some (.int l1)], [.int (nI 3), .int l1, .ref 116, .ref 125, .int (D 127 (l1).toNatClampNeg), .int l1, .ref 123], D, E)) rfl ?_
      obtain ⟨r2, h1, h⟩ := Option.bind_eq_some_iff.mp h
      refine gv_d hq rfl rfl rfl rfl rfl ((t_M_of X d D E _ _ _ h1)) (S' := (41, [some (.ref 116), some (.int l1)], [.int r2, .ref 125, .int (D 127 (l1).toNatClampNeg), .int l1, .ref 123], D, E)) rfl ?_
      refine gv_ia hq rfl rfl rfl h 42 rfl (fun h => ?_)
      refine gv_n hq 2 (S' := (47, [some (.ref 116), some (.int l1)], [.int ((D 127 (l1).toNatClampNeg) - (D 125 (r2).toNatClampNeg)), .int l1, .ref 123], D, E)) rfl ?_
      refine gv_is hq rfl rfl h 48 rfl (fun h => ?_)
      refine gv_n hq 2 (S' := (2, [some (.ref 116), some (.int (l1 + (nI 1)))], [], (sD D 123 (l1).toNatClampNeg ((D 127 (l1).toNatClampNeg) - (D 125 (r2).toNatClampNeg))), E)) rfl ?_
      exact gv_w (K2 _ _ _ h) (And.intro rfl (And.intro rfl trivial))
def g_M_layMore_2 (F : Nat) : Nat → Int32 → mx_D → Option (mx_D) := it (fun k2 => b_M_layMore_2 F k2) (fun _ _ => none)
set_option maxRecDepth 100000 in
set_option maxHeartbeats 4000000 in
theorem t_M_layMore_2 (X : ev_X) (F : Nat) (d : Nat) (hd : 2 ≤ d + 1) (E : mx_E)  : ∀ (n : Nat) (l1 : Int32) (D : mx_D) (v : mx_D), g_M_layMore_2 F n l1 D = some v → ev X (d + 1) 250 (2, [some (.ref 116), some (.int l1)], [], D, E) (qR none v E) := by
  intro n
  induction n with
  | zero => intro l1 D v h; cases h
  | succ n ih => intro l1 D v h; exact tb_M_layMore_2 X F d hd E (g_M_layMore_2 F n) ih l1 D v h
def g_M_layMore (F : Nat) (D : mx_D) : Option (mx_D) := (g_M_layMore_2 F F (nI 0) D)
set_option maxRecDepth 100000 in
set_option maxHeartbeats 4000000 in
theorem t_M_layMore (X : ev_X) (F : Nat) (d : Nat) (hd : 2 ≤ d + 1) (E : mx_E) (D : mx_D) (v : mx_D) (h : g_M_layMore F D = some v) : ev X (d + 1) 250 (0, [some (.ref 116), none], [], D, E) (qR none v E) := by
  have hq : kq_m 250 = some kq_q250 := rfl
  unfold g_M_layMore at h
  refine gv_n hq 2 (S' := (2, [some (.ref 116), some (.int (nI 0))], [], D, E)) rfl ?_
  exact gv_w (t_M_layMore_2 X F d hd E F _ _ _ h) (And.intro rfl (And.intro rfl trivial))
def b_M_sumMore_4 (F : Nat) (D : mx_D) (k4 : Int32 → Int32 → Option (Int32)) (l1 : Int32) (l2 : Int32) : Option (Int32) := (if (D 117 0) ≤ l2 then (some l1) else (rk 4 l2 (k4 (l1 + (D 125 (l2).toNatClampNeg)) (l2 + (nI 1)))))
set_option maxRecDepth 100000 in
set_option maxHeartbeats 4000000 in
theorem tb_M_sumMore_4 (X : ev_X) (F : Nat) (d : Nat) (D : mx_D) (E : mx_E) (k4 : Int32 → Int32 → Option (Int32)) (K4 : ∀ (l1 : Int32) (l2 : Int32) (v : Int32), k4 l1 l2 = some v → ev X d 252 (4, [some (.ref 116), some (.int l1), some (.int l2)], [], D, E) (qR (some (.int v)) D E)) (l1 : Int32) (l2 : Int32) (v : Int32) (h : b_M_sumMore_4 F D k4 l1 l2 = some v) : ev X d 252 (4, [some (.ref 116), some (.int l1), some (.int l2)], [], D, E) (qR (some (.int v)) D E) := by
  have hq : kq_m 252 = some kq_q252 := rfl
  unfold b_M_sumMore_4 at h
  refine gv_n hq 5 (S' := (11, [some (.ref 116), some (.int l1), some (.int l2)], [.int (D 117 0), .int l2], D, E)) rfl ?_
  refine gv_b hq rfl h 29 14 rfl rfl rfl (fun h => ?_) (fun h => ?_)
  · refine gv_n hq 1 (S' := (30, [some (.ref 116), some (.int l1), some (.int l2)], [.int l1], D, E)) rfl ?_
    cases h
    exact ev_ret hq rfl rfl ⟨rfl, rfl, rfl⟩
  · refine gv_n hq 4 (S' := (20, [some (.ref 116), some (.int l1), some (.int l2)], [.int l2, .ref 125, .int l1], D, E)) rfl ?_
    refine gv_ia hq rfl rfl rfl h 21 rfl (fun h => ?_)
    refine gv_n hq 4 (S' := (4, [some (.ref 116), some (.int (l1 + (D 125 (l2).toNatClampNeg))), some (.int (l2 + (nI 1)))], [], D, E)) rfl ?_
    exact gv_w (K4 _ _ _ h) (And.intro rfl (And.intro rfl (And.intro rfl trivial)))
def g_M_sumMore_4 (F : Nat) (D : mx_D) : Nat → Int32 → Int32 → Option (Int32) := it (fun k4 => b_M_sumMore_4 F D k4) (fun _ _ => none)
set_option maxRecDepth 100000 in
set_option maxHeartbeats 4000000 in
theorem t_M_sumMore_4 (X : ev_X) (F : Nat) (d : Nat) (D : mx_D) (E : mx_E)  : ∀ (n : Nat) (l1 : Int32) (l2 : Int32) (v : Int32), g_M_sumMore_4 F D n l1 l2 = some v → ev X d 252 (4, [some (.ref 116), some (.int l1), some (.int l2)], [], D, E) (qR (some (.int v)) D E) := by
  intro n
  induction n with
  | zero => intro l1 l2 v h; cases h
  | succ n ih => intro l1 l2 v h; exact tb_M_sumMore_4 X F d D E (g_M_sumMore_4 F D n) ih l1 l2 v h
def g_M_sumMore (F : Nat) (D : mx_D) : Option (Int32) := (g_M_sumMore_4 F D F (nI 0) (nI 0))
set_option maxRecDepth 100000 in
set_option maxHeartbeats 4000000 in
theorem t_M_sumMore (X : ev_X) (F : Nat) (d : Nat) (D : mx_D) (E : mx_E) (v : Int32) (h : g_M_sumMore F D = some v) : ev X d 252 (0, [some (.ref 116), none, none], [], D, E) (qR (some (.int v)) D E) := by
  have hq : kq_m 252 = some kq_q252 := rfl
  unfold g_M_sumMore at h
  refine gv_n hq 4 (S' := (4, [some (.ref 116), some (.int (nI 0)), some (.int (nI 0))], [], D, E)) rfl ?_
  exact gv_w (t_M_sumMore_4 X F d D E F _ _ _ h) (And.intro rfl (And.intro rfl (And.intro rfl trivial)))
def b_M_keepIfBest_30 (F : Nat) (k30 : Int32 → mx_D → Option (mx_D)) (l1 : Int32) (D : mx_D) : Option (mx_D) := (if (nI 4) ≤ l1 then (some D) else (rk 4 l1 (rk 4 l1 (k30 (l1 + (nI 1)) (sD D 126 (l1).toNatClampNeg (D 125 (l1).toNatClampNeg))))))
set_option maxRecDepth 100000 in
set_option maxHeartbeats 4000000 in
theorem tb_M_keepIfBest_30 (X : ev_X) (F : Nat) (d : Nat) (hd : 1 ≤ d + 1) (E : mx_E) (k30 : Int32 → mx_D → Option (mx_D)) (K30 : ∀ (l1 : Int32) (D : mx_D) (v : mx_D), k30 l1 D = some v → ev X (d + 1) 251 (30, [some (.ref 116), some (.int l1)], [], D, E) (qR none v E)) (l1 : Int32) (D : mx_D) (v : mx_D) (h : b_M_keepIfBest_30 F k30 l1 D = some v) : ev X (d + 1) 251 (30, [some (.ref 116), some (.int l1)], [], D, E) (qR none v E) := by
  have hq : kq_m 251 = some kq_q251 := rfl
  unfold b_M_keepIfBest_30 at h
  refine gv_n hq 2 (S' := (32, [some (.ref 116), some (.int l1)], [.int (nI 4), .int l1], D, E)) rfl ?_
  refine gv_b hq rfl h 53 35 rfl rfl rfl (fun h => ?_) (fun h => ?_)
  · cases h
    exact ev_ret hq rfl rfl ⟨rfl, rfl, rfl⟩
  · refine gv_n hq 6 (S' := (45, [some (.ref 116), some (.int l1)], [.int l1, .ref 125, .int l1, .ref 126], D, E)) rfl ?_
    refine gv_ia hq rfl rfl rfl h 46 rfl (fun h => ?_)
    refine gv_is hq rfl rfl h 47 rfl (fun h => ?_)
    refine gv_n hq 2 (S' := (30, [some (.ref 116), some (.int (l1 + (nI 1)))], [], (sD D 126 (l1).toNatClampNeg (D 125 (l1).toNatClampNeg)), E)) rfl ?_
    exact gv_w (K30 _ _ _ h) (And.intro rfl (And.intro rfl trivial))
def g_M_keepIfBest_30 (F : Nat) : Nat → Int32 → mx_D → Option (mx_D) := it (fun k30 => b_M_keepIfBest_30 F k30) (fun _ _ => none)
set_option maxRecDepth 100000 in
set_option maxHeartbeats 4000000 in
theorem t_M_keepIfBest_30 (X : ev_X) (F : Nat) (d : Nat) (hd : 1 ≤ d + 1) (E : mx_E)  : ∀ (n : Nat) (l1 : Int32) (D : mx_D) (v : mx_D), g_M_keepIfBest_30 F n l1 D = some v → ev X (d + 1) 251 (30, [some (.ref 116), some (.int l1)], [], D, E) (qR none v E) := by
  intro n
  induction n with
  | zero => intro l1 D v h; cases h
  | succ n ih => intro l1 D v h; exact tb_M_keepIfBest_30 X F d hd E (g_M_keepIfBest_30 F n) ih l1 D v h
def g_M_keepIfBest (F : Nat) (D : mx_D) : Option (mx_D) := (if (D 116 19) = (-1 : Int32) then (Option.bind (g_M_sumMore F D) (fun r1 => (g_M_keepIfBest_30 F F (nI 0) (sD D 116 19 r1)))) else (Option.bind (g_M_sumMore F D) (fun r2 => (if r2 < (D 116 19) then (Option.bind (g_M_sumMore F D) (fun r3 => (g_M_keepIfBest_30 F F (nI 0) (sD D 116 19 r3)))) else (some D)))))
set_option maxRecDepth 100000 in
set_option maxHeartbeats 4000000 in
theorem t_M_keepIfBest (X : ev_X) (F : Nat) (d : Nat) (hd : 1 ≤ d + 1) (E : mx_E) (D : mx_D) (v : mx_D) (h : g_M_keepIfBest F D = some v) : ev X (d + 1) 251 (0, [some (.ref 116), none], [], D, E) (qR none v E) := by
  have hq : kq_m 251 = some kq_q251 := rfl
  unfold g_M_keepIfBest at h
  refine gv_n hq 3 (S' := (5, [some (.ref 116), none], [.int (-1 : Int32), .int (D 116 19)], D, E)) rfl ?_
  refine gv_b hq rfl h 20 8 rfl rfl rfl (fun h => ?_) (fun h => ?_)
  · refine gv_n hq 2 (S' := (22, [some (.ref 116), none], [.ref 116, .ref 116], D, E)) rfl ?_
    obtain ⟨r1, h1, h⟩ := Option.bind_eq_some_iff.mp h
    refine gv_d hq rfl rfl rfl rfl rfl ((t_M_sumMore X F d D E _ h1)) (S' := (25, [some (.ref 116), none], [.int r1, .ref 116], D, E)) rfl ?_
    refine gv_n hq 3 (S' := (30, [some (.ref 116), some (.int (nI 0))], [], (sD D 116 19 r1), E)) rfl ?_
    exact gv_w (t_M_keepIfBest_30 X F d hd E F _ _ _ h) (And.intro rfl (And.intro rfl trivial))
  · refine gv_n hq 1 (S' := (9, [some (.ref 116), none], [.ref 116], D, E)) rfl ?_
    obtain ⟨r2, h1, h⟩ := Option.bind_eq_some_iff.mp h
    refine gv_d hq rfl rfl rfl rfl rfl ((t_M_sumMore X F d D E _ h1)) (S' := (12, [some (.ref 116), none], [.int r2], D, E)) rfl ?_
    refine gv_n hq 2 (S' := (16, [some (.ref 116), none], [.int (D 116 19), .int r2], D, E)) rfl ?_
    refine gv_b hq rfl h 20 19 rfl rfl rfl (fun h => ?_) (fun h => ?_)
    · refine gv_n hq 2 (S' := (22, [some (.ref 116), none], [.ref 116, .ref 116], D, E)) rfl ?_
      obtain ⟨r3, h1, h⟩ := Option.bind_eq_some_iff.mp h
      refine gv_d hq rfl rfl rfl rfl rfl ((t_M_sumMore X F d D E _ h1)) (S' := (25, [some (.ref 116), none], [.int r3, .ref 116], D, E)) rfl ?_
      refine gv_n hq 3 (S' := (30, [some (.ref 116), some (.int (nI 0))], [], (sD D 116 19 r3), E)) rfl ?_
      exact gv_w (t_M_keepIfBest_30 X F d hd E F _ _ _ h) (And.intro rfl (And.intro rfl trivial))
    · cases h
      exact ev_ret hq rfl rfl ⟨rfl, rfl, rfl⟩
def b_M_nextSawing_35 (F : Nat) (l1 : Int32) (D : mx_D) : Option (Int32 × mx_D) := (rk 4 l1 (rk 4 l1 (some ((nI 1), (sD D 125 (l1).toNatClampNeg ((D 125 (l1).toNatClampNeg) + (nI 1)))))))
set_option maxRecDepth 100000 in
set_option maxHeartbeats 4000000 in
theorem tb_M_nextSawing_35 (X : ev_X) (F : Nat) (d : Nat) (hd : 1 ≤ d + 1) (E : mx_E)  (l1 : Int32) (D : mx_D) (v : Int32 × mx_D) (h : b_M_nextSawing_35 F l1 D = some v) : ev X (d + 1) 253 (35, [some (.ref 116), some (.int l1)], [], D, E) (qR (some (.int v.1)) v.2 E) := by
  have hq : kq_m 253 = some kq_q253 := rfl
  unfold b_M_nextSawing_35 at h
  refine gv_n hq 4 (S' := (41, [some (.ref 116), some (.int l1)], [.int l1, .ref 125, .int l1, .ref 125], D, E)) rfl ?_
  refine gv_ia hq rfl rfl rfl h 42 rfl (fun h => ?_)
  refine gv_n hq 2 (S' := (44, [some (.ref 116), some (.int l1)], [.int ((D 125 (l1).toNatClampNeg) + (nI 1)), .int l1, .ref 125], D, E)) rfl ?_
  refine gv_is hq rfl rfl h 45 rfl (fun h => ?_)
  refine gv_n hq 1 (S' := (46, [some (.ref 116), some (.int l1)], [.int (nI 1)], (sD D 125 (l1).toNatClampNeg ((D 125 (l1).toNatClampNeg) + (nI 1))), E)) rfl ?_
  cases h
  exact ev_ret hq rfl rfl ⟨rfl, rfl, rfl⟩
def b_M_nextSawing_9 (F : Nat) (k9 : Int32 → mx_D → Option (Int32 × mx_D)) (l1 : Int32) (D : mx_D) : Option (Int32 × mx_D) := (if l1 < 0 then (some ((nI 0), D)) else (rk 4 l1 (rk 4 l1 (Option.bind (g_M_ofPew D l1 (nI 1)) (fun r1 => (if r1 ≤ ((D 124 (l1).toNatClampNeg) + (D 125 (l1).toNatClampNeg)) then (rk 4 l1 (k9 (l1 + (-1 : Int32)) (sD D 125 (l1).toNatClampNeg (nI 0)))) else (b_M_nextSawing_35 F l1 D)))))))
set_option maxRecDepth 100000 in
set_option maxHeartbeats 4000000 in
theorem tb_M_nextSawing_9 (X : ev_X) (F : Nat) (d : Nat) (hd : 1 ≤ d + 1) (E : mx_E) (k9 : Int32 → mx_D → Option (Int32 × mx_D)) (K9 : ∀ (l1 : Int32) (D : mx_D) (v : Int32 × mx_D), k9 l1 D = some v → ev X (d + 1) 253 (9, [some (.ref 116), some (.int l1)], [], D, E) (qR (some (.int v.1)) v.2 E)) (l1 : Int32) (D : mx_D) (v : Int32 × mx_D) (h : b_M_nextSawing_9 F k9 l1 D = some v) : ev X (d + 1) 253 (9, [some (.ref 116), some (.int l1)], [], D, E) (qR (some (.int v.1)) v.2 E) := by
  have hq : kq_m 253 = some kq_q253 := rfl
  unfold b_M_nextSawing_9 at h
  refine gv_n hq 1 (S' := (10, [some (.ref 116), some (.int l1)], [.int l1], D, E)) rfl ?_
  refine gv_b hq rfl h 60 13 rfl rfl rfl (fun h => ?_) (fun h => ?_)
  · refine gv_n hq 1 (S' := (61, [some (.ref 116), some (.int l1)], [.int (nI 0)], D, E)) rfl ?_
    cases h
    exact ev_ret hq rfl rfl ⟨rfl, rfl, rfl⟩
  · refine gv_n hq 3 (S' := (18, [some (.ref 116), some (.int l1)], [.int l1, .ref 124], D, E)) rfl ?_
    refine gv_ia hq rfl rfl rfl h 19 rfl (fun h => ?_)
    refine gv_n hq 3 (S' := (24, [some (.ref 116), some (.int l1)], [.int l1, .ref 125, .int (D 124 (l1).toNatClampNeg)], D, E)) rfl ?_
    refine gv_ia hq rfl rfl rfl h 25 rfl (fun h => ?_)
    refine gv_n hq 4 (S' := (29, [some (.ref 116), some (.int l1)], [.int (nI 1), .int l1, .ref 116, .int ((D 124 (l1).toNatClampNeg) + (D 125 (l1).toNatClampNeg))], D, E)) rfl ?_
    obtain ⟨r1, h1, h⟩ := Option.bind_eq_some_iff.mp h
    refine gv_d hq rfl rfl rfl rfl rfl ((t_M_ofPew X d D E _ _ _ h1)) (S' := (32, [some (.ref 116), some (.int l1)], [.int r1, .int ((D 124 (l1).toNatClampNeg) + (D 125 (l1).toNatClampNeg))], D, E)) rfl ?_
    refine gv_b hq rfl h 47 35 rfl rfl rfl (fun h => ?_) (fun h => ?_)
    · refine gv_n hq 4 (S' := (53, [some (.ref 116), some (.int l1)], [.int (nI 0), .int l1, .ref 125], D, E)) rfl ?_
      refine gv_is hq rfl rfl h 54 rfl (fun h => ?_)
      refine gv_n hq 2 (S' := (9, [some (.ref 116), some (.int (l1 + (-1 : Int32)))], [], (sD D 125 (l1).toNatClampNeg (nI 0)), E)) rfl ?_
      exact gv_w (K9 _ _ _ h) (And.intro rfl (And.intro rfl trivial))
    · exact gv_w (tb_M_nextSawing_35 X F d hd E _ _ _ h) (And.intro rfl (And.intro rfl trivial))
def g_M_nextSawing_9 (F : Nat) : Nat → Int32 → mx_D → Option (Int32 × mx_D) := it (fun k9 => b_M_nextSawing_9 F k9) (fun _ _ => none)
set_option maxRecDepth 100000 in
set_option maxHeartbeats 4000000 in
theorem t_M_nextSawing_9 (X : ev_X) (F : Nat) (d : Nat) (hd : 1 ≤ d + 1) (E : mx_E)  : ∀ (n : Nat) (l1 : Int32) (D : mx_D) (v : Int32 × mx_D), g_M_nextSawing_9 F n l1 D = some v → ev X (d + 1) 253 (9, [some (.ref 116), some (.int l1)], [], D, E) (qR (some (.int v.1)) v.2 E) := by
  intro n
  induction n with
  | zero => intro l1 D v h; cases h
  | succ n ih => intro l1 D v h; exact tb_M_nextSawing_9 X F d hd E (g_M_nextSawing_9 F n) ih l1 D v h
def g_M_nextSawing (F : Nat) (D : mx_D) : Option (Int32 × mx_D) := (g_M_nextSawing_9 F F ((D 117 0) - (nI 1)) D)
set_option maxRecDepth 100000 in
set_option maxHeartbeats 4000000 in
theorem t_M_nextSawing (X : ev_X) (F : Nat) (d : Nat) (hd : 1 ≤ d + 1) (E : mx_E) (D : mx_D) (v : Int32 × mx_D) (h : g_M_nextSawing F D = some v) : ev X (d + 1) 253 (0, [some (.ref 116), none], [], D, E) (qR (some (.int v.1)) v.2 E) := by
  have hq : kq_m 253 = some kq_q253 := rfl
  unfold g_M_nextSawing at h
  refine gv_n hq 7 (S' := (9, [some (.ref 116), some (.int ((D 117 0) - (nI 1)))], [], D, E)) rfl ?_
  exact gv_w (t_M_nextSawing_9 X F d hd E F _ _ _ h) (And.intro rfl (And.intro rfl trivial))
def b_M_sawAll_26 (F : Nat) (k26 : Int32 → mx_D → Option (mx_D)) (l2 : Int32) (D : mx_D) : Option (mx_D) := (Option.bind (g_M_layMore F D) (fun r3 => (Option.bind (g_M_unlevel F r3 l2) (fun r4 => (if r4 ≤ ((sD r3 116 21 (imn (r3 116 21) r4)) 117 2) then (Option.bind (g_M_keepIfBest F (sD (sD r3 116 21 (imn (r3 116 21) r4)) 116 20 (((sD r3 116 21 (imn (r3 116 21) r4)) 116 20) + (nI 1)))) (fun r5 => (Option.bind (g_M_nextSawing F r5) (fun r6 => (if r6.1 = 0 then (some r6.2) else (k26 l2 r6.2)))))) else (Option.bind (g_M_nextSawing F (sD r3 116 21 (imn (r3 116 21) r4))) (fun r7 => (if r7.1 = 0 then (some r7.2) else (k26 l2 r7.2)))))))))
set_option maxRecDepth 100000 in
set_option maxHeartbeats 4000000 in
theorem tb_M_sawAll_26 (X : ev_X) (F : Nat) (d : Nat) (hd : 6 ≤ d + 1) (E : mx_E) (k26 : Int32 → mx_D → Option (mx_D)) (K26 : ∀ (l2 : Int32) (D : mx_D) (v : mx_D), k26 l2 D = some v → ev X (d + 1) 247 (26, [some (.ref 116), none, some (.int l2), none], [], D, E) (qR none v E)) (l2 : Int32) (D : mx_D) (v : mx_D) (h : b_M_sawAll_26 F k26 l2 D = some v) : ev X (d + 1) 247 (26, [some (.ref 116), none, some (.int l2), none], [], D, E) (qR none v E) := by
  have hq : kq_m 247 = some kq_q247 := rfl
  unfold b_M_sawAll_26 at h
  refine gv_n hq 1 (S' := (27, [some (.ref 116), none, some (.int l2), none], [.ref 116], D, E)) rfl ?_
  obtain ⟨r3, h1, h⟩ := Option.bind_eq_some_iff.mp h
  refine gv_d hq rfl rfl rfl rfl rfl (gv_dd (by omega) (t_M_layMore X F (d - 1) (by omega) E _ _ h1)) (S' := (30, [some (.ref 116), none, some (.int l2), none], [], r3, E)) rfl ?_
  refine gv_n hq 2 (S' := (32, [some (.ref 116), none, some (.int l2), none], [.int l2, .ref 116], r3, E)) rfl ?_
  obtain ⟨r4, h1, h⟩ := Option.bind_eq_some_iff.mp h
  refine gv_d hq rfl rfl rfl rfl rfl (gv_dd (by omega) (t_M_unlevel X F (d - 1) (by omega) r3 E _ _ h1)) (S' := (35, [some (.ref 116), none, some (.int l2), none], [.int r4], r3, E)) rfl ?_
  refine gv_n hq 12 (S' := (55, [some (.ref 116), none, some (.int l2), some (.int r4)], [.int ((sD r3 116 21 (imn (r3 116 21) r4)) 117 2), .int r4], (sD r3 116 21 (imn (r3 116 21) r4)), E)) rfl ?_
  refine gv_b hq rfl h 61 58 rfl rfl rfl (fun h => ?_) (fun h => ?_)
  · refine gv_n hq 7 (S' := (72, [some (.ref 116), none, some (.int l2), some (.int r4)], [.ref 116], (sD (sD r3 116 21 (imn (r3 116 21) r4)) 116 20 (((sD r3 116 21 (imn (r3 116 21) r4)) 116 20) + (nI 1))), E)) rfl ?_
    obtain ⟨r5, h1, h⟩ := Option.bind_eq_some_iff.mp h
    refine gv_d hq rfl rfl rfl rfl rfl (gv_dd (by omega) (t_M_keepIfBest X F (d - 1) (by omega) E _ _ h1)) (S' := (75, [some (.ref 116), none, some (.int l2), some (.int r4)], [], r5, E)) rfl ?_
    refine gv_n hq 1 (S' := (76, [some (.ref 116), none, some (.int l2), some (.int r4)], [.ref 116], r5, E)) rfl ?_
    obtain ⟨r6, h1, h⟩ := Option.bind_eq_some_iff.mp h
    refine gv_d hq rfl rfl rfl rfl rfl (gv_dd (by omega) (t_M_nextSawing X F (d - 1) (by omega) E _ _ h1)) (S' := (79, [some (.ref 116), none, some (.int l2), some (.int r4)], [.int r6.1], r6.2, E)) rfl ?_
    refine gv_b hq rfl h 82 26 rfl rfl rfl (fun h => ?_) (fun h => ?_)
    · cases h
      exact ev_ret hq rfl rfl ⟨rfl, rfl, rfl⟩
    · exact gv_w (K26 _ _ _ h) (And.intro rfl (And.intro rfl trivial))
  · refine gv_n hq 2 (S' := (76, [some (.ref 116), none, some (.int l2), some (.int r4)], [.ref 116], (sD r3 116 21 (imn (r3 116 21) r4)), E)) rfl ?_
    obtain ⟨r7, h1, h⟩ := Option.bind_eq_some_iff.mp h
    refine gv_d hq rfl rfl rfl rfl rfl (gv_dd (by omega) (t_M_nextSawing X F (d - 1) (by omega) E _ _ h1)) (S' := (79, [some (.ref 116), none, some (.int l2), some (.int r4)], [.int r7.1], r7.2, E)) rfl ?_
    refine gv_b hq rfl h 82 26 rfl rfl rfl (fun h => ?_) (fun h => ?_)
    · cases h
      exact ev_ret hq rfl rfl ⟨rfl, rfl, rfl⟩
    · exact gv_w (K26 _ _ _ h) (And.intro rfl (And.intro rfl trivial))
def g_M_sawAll_26 (F : Nat) : Nat → Int32 → mx_D → Option (mx_D) := it (fun k26 => b_M_sawAll_26 F k26) (fun _ _ => none)
set_option maxRecDepth 100000 in
set_option maxHeartbeats 4000000 in
theorem t_M_sawAll_26 (X : ev_X) (F : Nat) (d : Nat) (hd : 6 ≤ d + 1) (E : mx_E)  : ∀ (n : Nat) (l2 : Int32) (D : mx_D) (v : mx_D), g_M_sawAll_26 F n l2 D = some v → ev X (d + 1) 247 (26, [some (.ref 116), none, some (.int l2), none], [], D, E) (qR none v E) := by
  intro n
  induction n with
  | zero => intro l2 D v h; cases h
  | succ n ih => intro l2 D v h; exact tb_M_sawAll_26 X F d hd E (g_M_sawAll_26 F n) ih l2 D v h
def g_M_sawAll (F : Nat) (a1 : Int32) (a2 : Int32) (D : mx_D) : Option (mx_D) := (Option.bind (g_M_keepUnsawn F a1 (sD (sD (sD D 116 19 (-1 : Int32)) 116 20 (nI 0)) 116 21 (nI 1000000))) (fun r1 => (Option.bind (g_M_beginsSawing F r1) (fun r2 => (g_M_sawAll_26 F F a2 r2)))))
set_option maxRecDepth 100000 in
set_option maxHeartbeats 4000000 in
theorem t_M_sawAll (X : ev_X) (F : Nat) (d : Nat) (hd : 6 ≤ d + 1) (E : mx_E) (a1 : Int32) (a2 : Int32) (D : mx_D) (v : mx_D) (h : g_M_sawAll F a1 a2 D = some v) : ev X (d + 1) 247 (0, [some (.ref 116), some (.int a1), some (.int a2), none], [], D, E) (qR none v E) := by
  have hq : kq_m 247 = some kq_q247 := rfl
  unfold g_M_sawAll at h
  refine gv_n hq 11 (S' := (19, [some (.ref 116), some (.int a1), some (.int a2), none], [.int a1, .ref 116], (sD (sD (sD D 116 19 (-1 : Int32)) 116 20 (nI 0)) 116 21 (nI 1000000)), E)) rfl ?_
  obtain ⟨r1, h1, h⟩ := Option.bind_eq_some_iff.mp h
  refine gv_d hq rfl rfl rfl rfl rfl (gv_dd (by omega) (t_M_keepUnsawn X F (d - 1) (by omega) E _ _ _ h1)) (S' := (22, [some (.ref 116), some (.int a1), some (.int a2), none], [], r1, E)) rfl ?_
  refine gv_n hq 1 (S' := (23, [some (.ref 116), some (.int a1), some (.int a2), none], [.ref 116], r1, E)) rfl ?_
  obtain ⟨r2, h1, h⟩ := Option.bind_eq_some_iff.mp h
  refine gv_d hq rfl rfl rfl rfl rfl (gv_dd (by omega) (t_M_beginsSawing X F (d - 1) (by omega) E _ _ h1)) (S' := (26, [some (.ref 116), some (.int a1), some (.int a2), none], [], r2, E)) rfl ?_
  exact gv_w (t_M_sawAll_26 X F d hd E F _ _ _ h) (And.intro rfl (And.intro rfl trivial))
def g_M_saws (F : Nat) (a1 : Int32) (D : mx_D) : Option (Int32 × mx_D) := (if (g_M_isYear D a1) = 0 then (some ((-2 : Int32), D)) else (Option.bind (g_M_sitters F D) (fun r1 => (Option.bind (g_M_sawAll F a1 r1 D) (fun r2 => (some ((r2 116 19), r2)))))))
set_option maxRecDepth 100000 in
set_option maxHeartbeats 4000000 in
theorem t_M_saws (X : ev_X) (F : Nat) (d : Nat) (hd : 7 ≤ d + 1) (E : mx_E) (a1 : Int32) (D : mx_D) (v : Int32 × mx_D) (h : g_M_saws F a1 D = some v) : ev X (d + 1) 246 (0, [some (.ref 116), some (.int a1)], [], D, E) (qR (some (.int v.1)) v.2 E) := by
  have hq : kq_m 246 = some kq_q246 := rfl
  unfold g_M_saws at h
  refine gv_n hq 2 (S' := (2, [some (.ref 116), some (.int a1)], [.int a1, .ref 116], D, E)) rfl ?_
  refine gv_d hq rfl rfl rfl rfl rfl (gv_dd (by omega) (t_M_isYear X (d - 1) (by omega) D E _ _ rfl)) (S' := (5, [some (.ref 116), some (.int a1)], [.int (g_M_isYear D a1)], D, E)) rfl ?_
  refine gv_b hq rfl h 8 11 rfl rfl rfl (fun h => ?_) (fun h => ?_)
  · refine gv_n hq 1 (S' := (10, [some (.ref 116), some (.int a1)], [.int (-2 : Int32)], D, E)) rfl ?_
    cases h
    exact ev_ret hq rfl rfl ⟨rfl, rfl, rfl⟩
  · refine gv_n hq 3 (S' := (14, [some (.ref 116), some (.int a1)], [.ref 116, .int a1, .ref 116], D, E)) rfl ?_
    obtain ⟨r1, h1, h⟩ := Option.bind_eq_some_iff.mp h
    refine gv_d hq rfl rfl rfl rfl rfl (gv_dd (by omega) (t_M_sitters X F (d - 1) (by omega) D E _ h1)) (S' := (17, [some (.ref 116), some (.int a1)], [.int r1, .int a1, .ref 116], D, E)) rfl ?_
    obtain ⟨r2, h1, h⟩ := Option.bind_eq_some_iff.mp h
    refine gv_d hq rfl rfl rfl rfl rfl (gv_dd (by omega) (t_M_sawAll X F (d - 1) (by omega) E _ _ _ _ h1)) (S' := (20, [some (.ref 116), some (.int a1)], [], r2, E)) rfl ?_
    refine gv_n hq 2 (S' := (24, [some (.ref 116), some (.int a1)], [.int (r2 116 19)], r2, E)) rfl ?_
    cases h
    exact ev_ret hq rfl rfl ⟨rfl, rfl, rfl⟩
def g_X_saw (F : Nat) (a1 : Int32) (a2 : Int32) (D : mx_D) : Option (Int32 × mx_D) := (if (g_X_canAsk D a1) = 0 then (some ((-2 : Int32), D)) else (if (g_Church_hasPew D a2) = 0 then (some ((-2 : Int32), D)) else (Option.bind (g_X_sawAsLongAsCan F a1 a1 D) (fun r1 => (if a1 ≤ r1.1 then (rk 4 a2 (some ((r1.2 38 (a2).toNatClampNeg), r1.2))) else (some ((-1 : Int32), r1.2)))))))
set_option maxRecDepth 100000 in
set_option maxHeartbeats 4000000 in
theorem t_X_saw (X : ev_X) (F : Nat) (d : Nat) (hd : 6 ≤ d + 1) (E : mx_E) (a1 : Int32) (a2 : Int32) (D : mx_D) (v : Int32 × mx_D) (h : g_X_saw F a1 a2 D = some v) : ev X (d + 1) 132 (0, [some (.ref 0), some (.int a1), some (.int a2)], [], D, E) (qR (some (.int v.1)) v.2 E) := by
  have hq : kq_m 132 = some kq_q132 := rfl
  unfold g_X_saw at h
  refine gv_n hq 2 (S' := (2, [some (.ref 0), some (.int a1), some (.int a2)], [.int a1, .ref 0], D, E)) rfl ?_
  refine gv_d hq rfl rfl rfl rfl rfl (gv_dd (by omega) (t_X_canAsk X (d - 1) (by omega) D E _ _ rfl)) (S' := (5, [some (.ref 0), some (.int a1), some (.int a2)], [.int (g_X_canAsk D a1)], D, E)) rfl ?_
  refine gv_b hq rfl h 19 8 rfl rfl rfl (fun h => ?_) (fun h => ?_)
  · refine gv_n hq 1 (S' := (21, [some (.ref 0), some (.int a1), some (.int a2)], [.int (-2 : Int32)], D, E)) rfl ?_
    cases h
    exact ev_ret hq rfl rfl ⟨rfl, rfl, rfl⟩
  · refine gv_n hq 3 (S' := (13, [some (.ref 0), some (.int a1), some (.int a2)], [.int a2, .ref 19], D, E)) rfl ?_
    refine gv_d hq rfl rfl rfl rfl rfl ((t_Church_hasPew X d D E _ _ rfl)) (S' := (16, [some (.ref 0), some (.int a1), some (.int a2)], [.int (g_Church_hasPew D a2)], D, E)) rfl ?_
    refine gv_b hq rfl h 19 22 rfl rfl rfl (fun h => ?_) (fun h => ?_)
    · refine gv_n hq 1 (S' := (21, [some (.ref 0), some (.int a1), some (.int a2)], [.int (-2 : Int32)], D, E)) rfl ?_
      cases h
      exact ev_ret hq rfl rfl ⟨rfl, rfl, rfl⟩
    · refine gv_n hq 3 (S' := (25, [some (.ref 0), some (.int a1), some (.int a2)], [.int a1, .int a1, .ref 0], D, E)) rfl ?_
      obtain ⟨r1, h1, h⟩ := Option.bind_eq_some_iff.mp h
      refine gv_d hq rfl rfl rfl rfl rfl (gv_dd (by omega) (t_X_sawAsLongAsCan X F (d - 1) (by omega) E _ _ _ _ h1)) (S' := (28, [some (.ref 0), some (.int a1), some (.int a2)], [.int r1.1], r1.2, E)) rfl ?_
      refine gv_n hq 1 (S' := (29, [some (.ref 0), some (.int a1), some (.int a2)], [.int a1, .int r1.1], r1.2, E)) rfl ?_
      refine gv_b hq rfl h 36 32 rfl rfl rfl (fun h => ?_) (fun h => ?_)
      · refine gv_n hq 4 (S' := (44, [some (.ref 0), some (.int a1), some (.int a2)], [.int a2, .ref 38], r1.2, E)) rfl ?_
        refine gv_ia hq rfl rfl rfl h 45 rfl (fun h => ?_)
        cases h
        exact ev_ret hq rfl rfl ⟨rfl, rfl, rfl⟩
      · refine gv_n hq 2 (S' := (45, [some (.ref 0), some (.int a1), some (.int a2)], [.int (-1 : Int32)], r1.2, E)) rfl ?_
        cases h
        exact ev_ret hq rfl rfl ⟨rfl, rfl, rfl⟩
def g_M_saw (F : Nat) (a1 : Int32) (a2 : Int32) (D : mx_D) : Option (Int32 × mx_D) := (if (g_M_isYear D a1) = 0 then (some ((-2 : Int32), D)) else (if (g_M_isPew D ((a2).toInt64)) = 0 then (some ((-2 : Int32), D)) else (Option.bind (g_M_sitters F D) (fun r1 => (Option.bind (g_M_sawAll F a1 r1 D) (fun r2 => (if (r2 116 19) = (-1 : Int32) then (some ((-1 : Int32), r2)) else (rk 4 a2 (some ((r2 126 (a2).toNatClampNeg), r2))))))))))
set_option maxRecDepth 100000 in
set_option maxHeartbeats 4000000 in
theorem t_M_saw (X : ev_X) (F : Nat) (d : Nat) (hd : 7 ≤ d + 1) (E : mx_E) (a1 : Int32) (a2 : Int32) (D : mx_D) (v : Int32 × mx_D) (h : g_M_saw F a1 a2 D = some v) : ev X (d + 1) 254 (0, [some (.ref 116), some (.int a1), some (.int a2)], [], D, E) (qR (some (.int v.1)) v.2 E) := by
  have hq : kq_m 254 = some kq_q254 := rfl
  unfold g_M_saw at h
  refine gv_n hq 2 (S' := (2, [some (.ref 116), some (.int a1), some (.int a2)], [.int a1, .ref 116], D, E)) rfl ?_
  refine gv_d hq rfl rfl rfl rfl rfl (gv_dd (by omega) (t_M_isYear X (d - 1) (by omega) D E _ _ rfl)) (S' := (5, [some (.ref 116), some (.int a1), some (.int a2)], [.int (g_M_isYear D a1)], D, E)) rfl ?_
  refine gv_b hq rfl h 17 8 rfl rfl rfl (fun h => ?_) (fun h => ?_)
  · refine gv_n hq 1 (S' := (19, [some (.ref 116), some (.int a1), some (.int a2)], [.int (-2 : Int32)], D, E)) rfl ?_
    cases h
    exact ev_ret hq rfl rfl ⟨rfl, rfl, rfl⟩
  · refine gv_n hq 3 (S' := (11, [some (.ref 116), some (.int a1), some (.int a2)], [.long ((a2).toInt64), .ref 116], D, E)) rfl ?_
    refine gv_d hq rfl rfl rfl rfl rfl (gv_dd (by omega) (t_M_isPew X (d - 1) (by omega) D E _ _ rfl)) (S' := (14, [some (.ref 116), some (.int a1), some (.int a2)], [.int (g_M_isPew D ((a2).toInt64))], D, E)) rfl ?_
    refine gv_b hq rfl h 17 20 rfl rfl rfl (fun h => ?_) (fun h => ?_)
    · refine gv_n hq 1 (S' := (19, [some (.ref 116), some (.int a1), some (.int a2)], [.int (-2 : Int32)], D, E)) rfl ?_
      cases h
      exact ev_ret hq rfl rfl ⟨rfl, rfl, rfl⟩
    · refine gv_n hq 3 (S' := (23, [some (.ref 116), some (.int a1), some (.int a2)], [.ref 116, .int a1, .ref 116], D, E)) rfl ?_
      obtain ⟨r1, h1, h⟩ := Option.bind_eq_some_iff.mp h
      refine gv_d hq rfl rfl rfl rfl rfl (gv_dd (by omega) (t_M_sitters X F (d - 1) (by omega) D E _ h1)) (S' := (26, [some (.ref 116), some (.int a1), some (.int a2)], [.int r1, .int a1, .ref 116], D, E)) rfl ?_
      obtain ⟨r2, h1, h⟩ := Option.bind_eq_some_iff.mp h
      refine gv_d hq rfl rfl rfl rfl rfl (gv_dd (by omega) (t_M_sawAll X F (d - 1) (by omega) E _ _ _ _ h1)) (S' := (29, [some (.ref 116), some (.int a1), some (.int a2)], [], r2, E)) rfl ?_
      refine gv_n hq 3 (S' := (34, [some (.ref 116), some (.int a1), some (.int a2)], [.int (-1 : Int32), .int (r2 116 19)], r2, E)) rfl ?_
      refine gv_b hq rfl h 37 41 rfl rfl rfl (fun h => ?_) (fun h => ?_)
      · refine gv_n hq 2 (S' := (47, [some (.ref 116), some (.int a1), some (.int a2)], [.int (-1 : Int32)], r2, E)) rfl ?_
        cases h
        exact ev_ret hq rfl rfl ⟨rfl, rfl, rfl⟩
      · refine gv_n hq 3 (S' := (46, [some (.ref 116), some (.int a1), some (.int a2)], [.int a2, .ref 126], r2, E)) rfl ?_
        refine gv_ia hq rfl rfl rfl h 47 rfl (fun h => ?_)
        cases h
        exact ev_ret hq rfl rfl ⟨rfl, rfl, rfl⟩
