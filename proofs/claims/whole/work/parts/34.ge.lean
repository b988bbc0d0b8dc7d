/-! ===== pictures of the methods and the rows that tie them to their frames, printed by a program of mine ===== -/
def b_Sawing_waysBetween_5 (F : Nat) (D : mx_D) (k5 : Int32 → Int32 → Int32 → Int32 → Option (Int32)) (l1 : Int32) (l2 : Int32) (l3 : Int32) (l4 : Int32) : Option (Int32) := (if (nI 4) ≤ l4 then (some l3) else (rk 4 l4 (if (D 40 (l4).toNatClampNeg) = 0 then (k5 l1 l2 l3 (l4 + (nI 1))) else (rk 4 l4 (rk 4 l4 (rk 4 l4 (k5 l1 l2 (l3 * (imx (nI 0) (((imn (D 39 (l4).toNatClampNeg) ((D 41 (l4).toNatClampNeg) - l1)) - (imx (nI 0) ((D 42 (l4).toNatClampNeg) - l2))) + (nI 1)))) (l4 + (nI 1)))))))))
set_option maxRecDepth 100000 in
set_option maxHeartbeats 4000000 in
theorem tb_Sawing_waysBetween_5 (X : ev_X) (F : Nat) (d : Nat) (hd : 1 ≤ d + 1) (D : mx_D) (E : mx_E) (k5 : Int32 → Int32 → Int32 → Int32 → Option (Int32)) (K5 : ∀ (l1 : Int32) (l2 : Int32) (l3 : Int32) (l4 : Int32) (v : Int32), k5 l1 l2 l3 l4 = some v → ev X (d + 1) 90 (5, [some (.ref 37), some (.int l1), some (.int l2), some (.int l3), some (.int l4), none, none], [], D, E) (qR (some (.int v)) D E)) (l1 : Int32) (l2 : Int32) (l3 : Int32) (l4 : Int32) (v : Int32) (h : b_Sawing_waysBetween_5 F D k5 l1 l2 l3 l4 = some v) : ev X (d + 1) 90 (5, [some (.ref 37), some (.int l1), some (.int l2), some (.int l3), some (.int l4), none, none], [], D, E) (qR (some (.int v)) D E) := by
  have hq : kq_m 90 = some kq_q90 := rfl
  unfold b_Sawing_waysBetween_5 at h
  refine gv_n hq 2 (S' := (8, [some (.ref 37), some (.int l1), some (.int l2), some (.int l3), some (.int l4), none, none], [.int (nI 4), .int l4], D, E)) rfl ?_
  refine gv_b hq rfl h 77 11 rfl rfl rfl (fun h => ?_) (fun h => ?_)
  · refine gv_n hq 1 (S' := (78, [some (.ref 37), some (.int l1), some (.int l2), some (.int l3), some (.int l4), none, none], [.int l3], D, E)) rfl ?_
    cases h
    exact ev_ret hq rfl rfl ⟨rfl, rfl, rfl⟩
  · refine gv_n hq 3 (S' := (17, [some (.ref 37), some (.int l1), some (.int l2), some (.int l3), some (.int l4), none, none], [.int l4, .ref 40], D, E)) rfl ?_
    refine gv_ba2 hq rfl rfl h 18 rfl (fun h => ?_)
    refine gv_b hq rfl h 71 21 rfl rfl rfl (fun h => ?_) (fun h => ?_)
    · refine gv_n hq 2 (S' := (5, [some (.ref 37), some (.int l1), some (.int l2), some (.int l3), some (.int (l4 + (nI 1))), none, none], [], D, E)) rfl ?_
      exact gv_w (K5 _ _ _ _ _ h) (And.intro rfl (And.intro rfl (And.intro rfl (And.intro rfl (And.intro rfl trivial)))))
    · refine gv_n hq 4 (S' := (28, [some (.ref 37), some (.int l1), some (.int l2), some (.int l3), some (.int l4), none, none], [.int l4, .ref 42, .int (nI 0)], D, E)) rfl ?_
      refine gv_ia hq rfl rfl rfl h 29 rfl (fun h => ?_)
      refine gv_n hq 7 (S' := (42, [some (.ref 37), some (.int l1), some (.int l2), some (.int l3), some (.int l4), some (.int (imx (nI 0) ((D 42 (l4).toNatClampNeg) - l2))), none], [.int l4, .ref 39], D, E)) rfl ?_
      refine gv_ia hq rfl rfl rfl h 43 rfl (fun h => ?_)
      refine gv_n hq 3 (S' := (49, [some (.ref 37), some (.int l1), some (.int l2), some (.int l3), some (.int l4), some (.int (imx (nI 0) ((D 42 (l4).toNatClampNeg) - l2))), none], [.int l4, .ref 41, .int (D 39 (l4).toNatClampNeg)], D, E)) rfl ?_
      refine gv_ia hq rfl rfl rfl h 50 rfl (fun h => ?_)
      refine gv_n hq 16 (S' := (5, [some (.ref 37), some (.int l1), some (.int l2), some (.int (l3 * (imx (nI 0) (((imn (D 39 (l4).toNatClampNeg) ((D 41 (l4).toNatClampNeg) - l1)) - (imx (nI 0) ((D 42 (l4).toNatClampNeg) - l2))) + (nI 1))))), some (.int (l4 + (nI 1))), some (.int (imx (nI 0) ((D 42 (l4).toNatClampNeg) - l2))), some (.int (imn (D 39 (l4).toNatClampNeg) ((D 41 (l4).toNatClampNeg) - l1)))], [], D, E)) rfl ?_
      exact gv_w (K5 _ _ _ _ _ h) (And.intro rfl (And.intro rfl (And.intro rfl (And.intro rfl (And.intro rfl trivial)))))
def g_Sawing_waysBetween_5 (F : Nat) (D : mx_D) : Nat → Int32 → Int32 → Int32 → Int32 → Option (Int32) := it (fun k5 => b_Sawing_waysBetween_5 F D k5) (fun _ _ _ _ => none)
set_option maxRecDepth 100000 in
set_option maxHeartbeats 4000000 in
theorem t_Sawing_waysBetween_5 (X : ev_X) (F : Nat) (d : Nat) (hd : 1 ≤ d + 1) (D : mx_D) (E : mx_E)  : ∀ (n : Nat) (l1 : Int32) (l2 : Int32) (l3 : Int32) (l4 : Int32) (v : Int32), g_Sawing_waysBetween_5 F D n l1 l2 l3 l4 = some v → ev X (d + 1) 90 (5, [some (.ref 37), some (.int l1), some (.int l2), some (.int l3), some (.int l4), none, none], [], D, E) (qR (some (.int v)) D E) := by
  intro n
  induction n with
  | zero => intro l1 l2 l3 l4 v h; cases h
  | succ n ih => intro l1 l2 l3 l4 v h; exact tb_Sawing_waysBetween_5 X F d hd D E (g_Sawing_waysBetween_5 F D n) ih l1 l2 l3 l4 v h
def g_Sawing_waysBetween (F : Nat) (D : mx_D) (a1 : Int32) (a2 : Int32) : Option (Int32) := (g_Sawing_waysBetween_5 F D F a1 a2 (nI 1) (nI 0))
set_option maxRecDepth 100000 in
set_option maxHeartbeats 4000000 in
theorem t_Sawing_waysBetween (X : ev_X) (F : Nat) (d : Nat) (hd : 1 ≤ d + 1) (D : mx_D) (E : mx_E) (a1 : Int32) (a2 : Int32) (v : Int32) (h : g_Sawing_waysBetween F D a1 a2 = some v) : ev X (d + 1) 90 (0, [some (.ref 37), some (.int a1), some (.int a2), none, none, none, none], [], D, E) (qR (some (.int v)) D E) := by
  have hq : kq_m 90 = some kq_q90 := rfl
  unfold g_Sawing_waysBetween at h
  refine gv_n hq 4 (S' := (5, [some (.ref 37), some (.int a1), some (.int a2), some (.int (nI 1)), some (.int (nI 0)), none, none], [], D, E)) rfl ?_
  exact gv_w (t_Sawing_waysBetween_5 X F d hd D E F _ _ _ _ _ h) (And.intro rfl (And.intro rfl (And.intro rfl (And.intro rfl (And.intro rfl trivial)))))
def b_Sawing_countTakenWays_13 (F : Nat) (D : mx_D) (k13 : Int32 → Int32 → Int32 → Int32 → Option (Int32)) (l1 : Int32) (l2 : Int32) (l3 : Int32) (l4 : Int32) : Option (Int32) := (if l3 < l4 then (some l2) else (Option.bind (g_Sawing_waysBetween F D l4 (l4 + l1)) (fun r2 => (Option.bind (g_Sawing_waysBetween F D (l4 + (nI 1)) (l4 + l1)) (fun r3 => (k13 l1 (l2 + (r2 - r3)) l3 (l4 + (nI 1))))))))
set_option maxRecDepth 100000 in
set_option maxHeartbeats 4000000 in
theorem tb_Sawing_countTakenWays_13 (X : ev_X) (F : Nat) (d : Nat) (hd : 2 ≤ d + 1) (D : mx_D) (E : mx_E) (k13 : Int32 → Int32 → Int32 → Int32 → Option (Int32)) (K13 : ∀ (l1 : Int32) (l2 : Int32) (l3 : Int32) (l4 : Int32) (v : Int32), k13 l1 l2 l3 l4 = some v → ev X (d + 1) 89 (13, [some (.ref 37), some (.int l1), some (.int l2), some (.int l3), some (.int l4)], [], D, E) (qR (some (.int v)) D E)) (l1 : Int32) (l2 : Int32) (l3 : Int32) (l4 : Int32) (v : Int32) (h : b_Sawing_countTakenWays_13 F D k13 l1 l2 l3 l4 = some v) : ev X (d + 1) 89 (13, [some (.ref 37), some (.int l1), some (.int l2), some (.int l3), some (.int l4)], [], D, E) (qR (some (.int v)) D E) := by
  have hq : kq_m 89 = some kq_q89 := rfl
  unfold b_Sawing_countTakenWays_13 at h
  refine gv_n hq 2 (S' := (16, [some (.ref 37), some (.int l1), some (.int l2), some (.int l3), some (.int l4)], [.int l3, .int l4], D, E)) rfl ?_
  refine gv_b hq rfl h 51 19 rfl rfl rfl (fun h => ?_) (fun h => ?_)
  · refine gv_n hq 1 (S' := (52, [some (.ref 37), some (.int l1), some (.int l2), some (.int l3), some (.int l4)], [.int l2], D, E)) rfl ?_
    cases h
    exact ev_ret hq rfl rfl ⟨rfl, rfl, rfl⟩
  · refine gv_n hq 6 (S' := (27, [some (.ref 37), some (.int l1), some (.int l2), some (.int l3), some (.int l4)], [.int (l4 + l1), .int l4, .ref 37, .int l2], D, E)) rfl ?_
    obtain ⟨r2, h1, h⟩ := Option.bind_eq_some_iff.mp h
    refine gv_d hq rfl rfl rfl rfl rfl (gv_dd (by omega) (t_Sawing_waysBetween X F (d - 1) (by omega) D E _ _ _ h1)) (S' := (30, [some (.ref 37), some (.int l1), some (.int l2), some (.int l3), some (.int l4)], [.int r2, .int l2], D, E)) rfl ?_
    refine gv_n hq 7 (S' := (39, [some (.ref 37), some (.int l1), some (.int l2), some (.int l3), some (.int l4)], [.int (l4 + l1), .int (l4 + (nI 1)), .ref 37, .int r2, .int l2], D, E)) rfl ?_
    obtain ⟨r3, h1, h⟩ := Option.bind_eq_some_iff.mp h
    refine gv_d hq rfl rfl rfl rfl rfl (gv_dd (by omega) (t_Sawing_waysBetween X F (d - 1) (by omega) D E _ _ _ h1)) (S' := (42, [some (.ref 37), some (.int l1), some (.int l2), some (.int l3), some (.int l4)], [.int r3, .int r2, .int l2], D, E)) rfl ?_
    refine gv_n hq 5 (S' := (13, [some (.ref 37), some (.int l1), some (.int (l2 + (r2 - r3))), some (.int l3), some (.int (l4 + (nI 1)))], [], D, E)) rfl ?_
    exact gv_w (K13 _ _ _ _ _ h) (And.intro rfl (And.intro rfl (And.intro rfl (And.intro rfl (And.intro rfl trivial)))))
def g_Sawing_countTakenWays_13 (F : Nat) (D : mx_D) : Nat → Int32 → Int32 → Int32 → Int32 → Option (Int32) := it (fun k13 => b_Sawing_countTakenWays_13 F D k13) (fun _ _ _ _ => none)
set_option maxRecDepth 100000 in
set_option maxHeartbeats 4000000 in
theorem t_Sawing_countTakenWays_13 (X : ev_X) (F : Nat) (d : Nat) (hd : 2 ≤ d + 1) (D : mx_D) (E : mx_E)  : ∀ (n : Nat) (l1 : Int32) (l2 : Int32) (l3 : Int32) (l4 : Int32) (v : Int32), g_Sawing_countTakenWays_13 F D n l1 l2 l3 l4 = some v → ev X (d + 1) 89 (13, [some (.ref 37), some (.int l1), some (.int l2), some (.int l3), some (.int l4)], [], D, E) (qR (some (.int v)) D E) := by
  intro n
  induction n with
  | zero => intro l1 l2 l3 l4 v h; cases h
  | succ n ih => intro l1 l2 l3 l4 v h; exact tb_Sawing_countTakenWays_13 X F d hd D E (g_Sawing_countTakenWays_13 F D n) ih l1 l2 l3 l4 v h
def g_Sawing_countTakenWays (F : Nat) (D : mx_D) (a1 : Int32) : Option (Int32) := (Option.bind (g_Sawing_lowestNow F D) (fun r1 => (g_Sawing_countTakenWays_13 F D F a1 (nI 0) r1 (r1 - (nI 9)))))
set_option maxRecDepth 100000 in
set_option maxHeartbeats 4000000 in
theorem t_Sawing_countTakenWays (X : ev_X) (F : Nat) (d : Nat) (hd : 2 ≤ d + 1) (D : mx_D) (E : mx_E) (a1 : Int32) (v : Int32) (h : g_Sawing_countTakenWays F D a1 = some v) : ev X (d + 1) 89 (0, [some (.ref 37), some (.int a1), none, none, none], [], D, E) (qR (some (.int v)) D E) := by
  have hq : kq_m 89 = some kq_q89 := rfl
  unfold g_Sawing_countTakenWays at h
  refine gv_n hq 3 (S' := (3, [some (.ref 37), some (.int a1), some (.int (nI 0)), none, none], [.ref 37], D, E)) rfl ?_
  obtain ⟨r1, h1, h⟩ := Option.bind_eq_some_iff.mp h
  refine gv_d hq rfl rfl rfl rfl rfl ((t_Sawing_lowestNow X F d D E _ h1)) (S' := (6, [some (.ref 37), some (.int a1), some (.int (nI 0)), none, none], [.int r1], D, E)) rfl ?_
  refine gv_n hq 5 (S' := (13, [some (.ref 37), some (.int a1), some (.int (nI 0)), some (.int r1), some (.int (r1 - (nI 9)))], [], D, E)) rfl ?_
  exact gv_w (t_Sawing_countTakenWays_13 X F d hd D E F _ _ _ _ _ h) (And.intro rfl (And.intro rfl (And.intro rfl (And.intro rfl (And.intro rfl trivial)))))
def b_Sawing_countWays_64 (F : Nat) (l3 : Int32) (l4 : Int32) (D : mx_D) : Option (Int32 × mx_D) := (if l4 = 0 then (Option.bind (g_Sawing_countTakenWays F D (D 19 2)) (fun r2 => (some ((l3 * r2), D)))) else (Option.bind (g_Heights_apart F D (D 34 2)) (fun r3 => (if (D 19 2) < r3 then (some ((nI 0), D)) else (some (l3, D))))))
set_option maxRecDepth 100000 in
set_option maxHeartbeats 4000000 in
theorem tb_Sawing_countWays_64 (X : ev_X) (F : Nat) (d : Nat) (hd : 4 ≤ d + 1) (E : mx_E)  (l3 : Int32) (l4 : Int32) (D : mx_D) (v : Int32 × mx_D) (h : b_Sawing_countWays_64 F l3 l4 D = some v) : ev X (d + 1) 88 (64, [some (.ref 37), some (.ref 34), some (.ref 19), some (.int l3), some (.int l4), none], [], D, E) (qR (some (.int v.1)) v.2 E) := by
  have hq : kq_m 88 = some kq_q88 := rfl
  unfold b_Sawing_countWays_64 at h
  refine gv_n hq 1 (S' := (66, [some (.ref 37), some (.ref 34), some (.ref 19), some (.int l3), some (.int l4), none], [.int l4], D, E)) rfl ?_
  refine gv_b hq rfl h 90 69 rfl rfl rfl (fun h => ?_) (fun h => ?_)
  · refine gv_n hq 4 (S' := (96, [some (.ref 37), some (.ref 34), some (.ref 19), some (.int l3), some (.int l4), none], [.int (D 19 2), .ref 37, .int l3], D, E)) rfl ?_
    obtain ⟨r2, h1, h⟩ := Option.bind_eq_some_iff.mp h
    refine gv_d hq rfl rfl rfl rfl rfl (gv_dd (by omega) (t_Sawing_countTakenWays X F (d - 1) (by omega) D E _ _ h1)) (S' := (99, [some (.ref 37), some (.ref 34), some (.ref 19), some (.int l3), some (.int l4), none], [.int r2, .int l3], D, E)) rfl ?_
    refine gv_n hq 1 (S' := (100, [some (.ref 37), some (.ref 34), some (.ref 19), some (.int l3), some (.int l4), none], [.int (l3 * r2)], D, E)) rfl ?_
    cases h
    exact ev_ret hq rfl rfl ⟨rfl, rfl, rfl⟩
  · refine gv_n hq 3 (S' := (74, [some (.ref 37), some (.ref 34), some (.ref 19), some (.int l3), some (.int l4), none], [.int (D 34 2), .ref 34], D, E)) rfl ?_
    obtain ⟨r3, h1, h⟩ := Option.bind_eq_some_iff.mp h
    refine gv_d hq rfl rfl rfl rfl rfl (gv_dd (by omega) (t_Heights_apart X F (d - 1) (by omega) D E _ _ h1)) (S' := (77, [some (.ref 37), some (.ref 34), some (.ref 19), some (.int l3), some (.int l4), none], [.int r3], D, E)) rfl ?_
    refine gv_n hq 2 (S' := (81, [some (.ref 37), some (.ref 34), some (.ref 19), some (.int l3), some (.int l4), none], [.int (D 19 2), .int r3], D, E)) rfl ?_
    refine gv_b hq rfl h 88 84 rfl rfl rfl (fun h => ?_) (fun h => ?_)
    · refine gv_n hq 1 (S' := (89, [some (.ref 37), some (.ref 34), some (.ref 19), some (.int l3), some (.int l4), none], [.int (nI 0)], D, E)) rfl ?_
      cases h
      exact ev_ret hq rfl rfl ⟨rfl, rfl, rfl⟩
    · refine gv_n hq 2 (S' := (89, [some (.ref 37), some (.ref 34), some (.ref 19), some (.int l3), some (.int l4), none], [.int l3], D, E)) rfl ?_
      cases h
      exact ev_ret hq rfl rfl ⟨rfl, rfl, rfl⟩
def b_Sawing_countWays_46 (F : Nat) (k17 : Int32 → Int32 → Int32 → mx_D → Option (Int32 × mx_D)) (l3 : Int32) (l4 : Int32) (l5 : Int32) (D : mx_D) : Option (Int32 × mx_D) := (rk 4 l5 (k17 (l3 * ((D 39 (l5).toNatClampNeg) + (nI 1))) l4 (l5 + (nI 1)) D))
set_option maxRecDepth 100000 in
set_option maxHeartbeats 4000000 in
theorem tb_Sawing_countWays_46 (X : ev_X) (F : Nat) (d : Nat) (hd : 4 ≤ d + 1) (E : mx_E) (k17 : Int32 → Int32 → Int32 → mx_D → Option (Int32 × mx_D)) (K17 : ∀ (l3 : Int32) (l4 : Int32) (l5 : Int32) (D : mx_D) (v : Int32 × mx_D), k17 l3 l4 l5 D = some v → ev X (d + 1) 88 (17, [some (.ref 37), some (.ref 34), some (.ref 19), some (.int l3), some (.int l4), some (.int l5)], [], D, E) (qR (some (.int v.1)) v.2 E)) (l3 : Int32) (l4 : Int32) (l5 : Int32) (D : mx_D) (v : Int32 × mx_D) (h : b_Sawing_countWays_46 F k17 l3 l4 l5 D = some v) : ev X (d + 1) 88 (46, [some (.ref 37), some (.ref 34), some (.ref 19), some (.int l3), some (.int l4), some (.int l5)], [], D, E) (qR (some (.int v.1)) v.2 E) := by
  have hq : kq_m 88 = some kq_q88 := rfl
  unfold b_Sawing_countWays_46 at h
  refine gv_n hq 4 (S' := (53, [some (.ref 37), some (.ref 34), some (.ref 19), some (.int l3), some (.int l4), some (.int l5)], [.int l5, .ref 39, .int l3], D, E)) rfl ?_
  refine gv_ia hq rfl rfl rfl h 54 rfl (fun h => ?_)
  refine gv_n hq 6 (S' := (17, [some (.ref 37), some (.ref 34), some (.ref 19), some (.int (l3 * ((D 39 (l5).toNatClampNeg) + (nI 1)))), some (.int l4), some (.int (l5 + (nI 1)))], [], D, E)) rfl ?_
  exact gv_w (K17 _ _ _ _ _ h) (And.intro rfl (And.intro rfl (And.intro rfl (And.intro rfl (And.intro rfl (And.intro rfl trivial))))))
def b_Sawing_countWays_17 (F : Nat) (k17 : Int32 → Int32 → Int32 → mx_D → Option (Int32 × mx_D)) (l3 : Int32) (l4 : Int32) (l5 : Int32) (D : mx_D) : Option (Int32 × mx_D) := (if (nI 4) ≤ l5 then (b_Sawing_countWays_64 F l3 l4 D) else (if (D 19 3) = 0 then (b_Sawing_countWays_46 F k17 l3 l4 l5 D) else (rk 4 l5 (if (D 40 (l5).toNatClampNeg) = 0 then (b_Sawing_countWays_46 F k17 l3 l4 l5 D) else (k17 l3 (nI 0) (l5 + (nI 1)) D)))))
set_option maxRecDepth 100000 in
set_option maxHeartbeats 4000000 in
theorem tb_Sawing_countWays_17 (X : ev_X) (F : Nat) (d : Nat) (hd : 4 ≤ d + 1) (E : mx_E) (k17 : Int32 → Int32 → Int32 → mx_D → Option (Int32 × mx_D)) (K17 : ∀ (l3 : Int32) (l4 : Int32) (l5 : Int32) (D : mx_D) (v : Int32 × mx_D), k17 l3 l4 l5 D = some v → ev X (d + 1) 88 (17, [some (.ref 37), some (.ref 34), some (.ref 19), some (.int l3), some (.int l4), some (.int l5)], [], D, E) (qR (some (.int v.1)) v.2 E)) (l3 : Int32) (l4 : Int32) (l5 : Int32) (D : mx_D) (v : Int32 × mx_D) (h : b_Sawing_countWays_17 F k17 l3 l4 l5 D = some v) : ev X (d + 1) 88 (17, [some (.ref 37), some (.ref 34), some (.ref 19), some (.int l3), some (.int l4), some (.int l5)], [], D, E) (qR (some (.int v.1)) v.2 E) := by
  have hq : kq_m 88 = some kq_q88 := rfl
  unfold b_Sawing_countWays_17 at h
  refine gv_n hq 2 (S' := (20, [some (.ref 37), some (.ref 34), some (.ref 19), some (.int l3), some (.int l4), some (.int l5)], [.int (nI 4), .int l5], D, E)) rfl ?_
  refine gv_b hq rfl h 64 23 rfl rfl rfl (fun h => ?_) (fun h => ?_)
  · exact gv_w (tb_Sawing_countWays_64 X F d hd E _ _ _ _ h) (And.intro rfl (And.intro rfl (And.intro rfl (And.intro rfl (And.intro rfl trivial)))))
  · refine gv_n hq 2 (S' := (27, [some (.ref 37), some (.ref 34), some (.ref 19), some (.int l3), some (.int l4), some (.int l5)], [.int (D 19 3)], D, E)) rfl ?_
    refine gv_b hq rfl h 46 30 rfl rfl rfl (fun h => ?_) (fun h => ?_)
    · exact gv_w (tb_Sawing_countWays_46 X F d hd E k17 K17 _ _ _ _ _ h) (And.intro rfl (And.intro rfl (And.intro rfl (And.intro rfl (And.intro rfl (And.intro rfl trivial))))))
    · refine gv_n hq 3 (S' := (36, [some (.ref 37), some (.ref 34), some (.ref 19), some (.int l3), some (.int l4), some (.int l5)], [.int l5, .ref 40], D, E)) rfl ?_
      refine gv_ba2 hq rfl rfl h 37 rfl (fun h => ?_)
      refine gv_b hq rfl h 46 40 rfl rfl rfl (fun h => ?_) (fun h => ?_)
      · exact gv_w (tb_Sawing_countWays_46 X F d hd E k17 K17 _ _ _ _ _ h) (And.intro rfl (And.intro rfl (And.intro rfl (And.intro rfl (And.intro rfl (And.intro rfl trivial))))))
      · refine gv_n hq 5 (S' := (17, [some (.ref 37), some (.ref 34), some (.ref 19), some (.int l3), some (.int (nI 0)), some (.int (l5 + (nI 1)))], [], D, E)) rfl ?_
        exact gv_w (K17 _ _ _ _ _ h) (And.intro rfl (And.intro rfl (And.intro rfl (And.intro rfl (And.intro rfl (And.intro rfl trivial))))))
def g_Sawing_countWays_17 (F : Nat) : Nat → Int32 → Int32 → Int32 → mx_D → Option (Int32 × mx_D) := it (fun k17 => b_Sawing_countWays_17 F k17) (fun _ _ _ _ => none)
set_option maxRecDepth 100000 in
set_option maxHeartbeats 4000000 in
theorem t_Sawing_countWays_17 (X : ev_X) (F : Nat) (d : Nat) (hd : 4 ≤ d + 1) (E : mx_E)  : ∀ (n : Nat) (l3 : Int32) (l4 : Int32) (l5 : Int32) (D : mx_D) (v : Int32 × mx_D), g_Sawing_countWays_17 F n l3 l4 l5 D = some v → ev X (d + 1) 88 (17, [some (.ref 37), some (.ref 34), some (.ref 19), some (.int l3), some (.int l4), some (.int l5)], [], D, E) (qR (some (.int v.1)) v.2 E) := by
  intro n
  induction n with
  | zero => intro l3 l4 l5 D v h; cases h
  | succ n ih => intro l3 l4 l5 D v h; exact tb_Sawing_countWays_17 X F d hd E (g_Sawing_countWays_17 F n) ih l3 l4 l5 D v h
def g_Sawing_countWays (F : Nat) (D : mx_D) : Option (Int32 × mx_D) := (Option.bind (g_Sawing_measure F (D 34 2) D) (fun r1 => (g_Sawing_countWays_17 F F (nI 1) (nI 1) (nI 0) r1)))
set_option maxRecDepth 100000 in
set_option maxHeartbeats 4000000 in
theorem t_Sawing_countWays (X : ev_X) (F : Nat) (d : Nat) (hd : 4 ≤ d + 1) (E : mx_E) (D : mx_D) (v : Int32 × mx_D) (h : g_Sawing_countWays F D = some v) : ev X (d + 1) 88 (0, [some (.ref 37), some (.ref 34), some (.ref 19), none, none, none], [], D, E) (qR (some (.int v.1)) v.2 E) := by
  have hq : kq_m 88 = some kq_q88 := rfl
  unfold g_Sawing_countWays at h
  refine gv_n hq 4 (S' := (6, [some (.ref 37), some (.ref 34), some (.ref 19), none, none, none], [.int (D 34 2), .ref 34, .ref 37], D, E)) rfl ?_
  obtain ⟨r1, h1, h⟩ := Option.bind_eq_some_iff.mp h
  refine gv_d hq rfl rfl rfl rfl rfl (gv_dd (by omega) (t_Sawing_measure X F (d - 1) (by omega) E _ _ _ h1)) (S' := (9, [some (.ref 37), some (.ref 34), some (.ref 19), none, none, none], [], r1, E)) rfl ?_
  refine gv_n hq 6 (S' := (17, [some (.ref 37), some (.ref 34), some (.ref 19), some (.int (nI 1)), some (.int (nI 1)), some (.int (nI 0))], [], r1, E)) rfl ?_
  exact gv_w (t_Sawing_countWays_17 X F d hd E F _ _ _ _ _ h) (And.intro rfl (And.intro rfl (And.intro rfl (And.intro rfl (And.intro rfl (And.intro rfl trivial))))))
def g_X_ways (F : Nat) (a1 : Int32) (D : mx_D) : Option (Int32 × mx_D) := (if (g_X_canAsk D a1) = 0 then (some ((-2 : Int32), D)) else (Option.bind (g_Heights_take F a1 D) (fun r1 => (Option.bind (g_Sawing_begin F r1) (fun r2 => (Option.bind (g_Sawing_countWays F r2) (fun r3 => (some (r3.1, r3.2)))))))))
set_option maxRecDepth 100000 in
set_option maxHeartbeats 4000000 in
theorem t_X_ways (X : ev_X) (F : Nat) (d : Nat) (hd : 5 ≤ d + 1) (E : mx_E) (a1 : Int32) (D : mx_D) (v : Int32 × mx_D) (h : g_X_ways F a1 D = some v) : ev X (d + 1) 133 (0, [some (.ref 0), some (.int a1)], [], D, E) (qR (some (.int v.1)) v.2 E) := by
  have hq : kq_m 133 = some kq_q133 := rfl
  unfold g_X_ways at h
  refine gv_n hq 2 (S' := (2, [some (.ref 0), some (.int a1)], [.int a1, .ref 0], D, E)) rfl ?_
  refine gv_d hq rfl rfl rfl rfl rfl (gv_dd (by omega) (t_X_canAsk X (d - 1) (by omega) D E _ _ rfl)) (S' := (5, [some (.ref 0), some (.int a1)], [.int (g_X_canAsk D a1)], D, E)) rfl ?_
  refine gv_b hq rfl h 8 11 rfl rfl rfl (fun h => ?_) (fun h => ?_)
  · refine gv_n hq 1 (S' := (10, [some (.ref 0), some (.int a1)], [.int (-2 : Int32)], D, E)) rfl ?_
    cases h
    exact ev_ret hq rfl rfl ⟨rfl, rfl, rfl⟩
  · refine gv_n hq 5 (S' := (20, [some (.ref 0), some (.int a1)], [.int a1, .ref 19, .ref 34], D, E)) rfl ?_
    obtain ⟨r1, h1, h⟩ := Option.bind_eq_some_iff.mp h
    refine gv_d hq rfl rfl rfl rfl rfl (gv_dd (by omega) (t_Heights_take X F (d - 1) (by omega) E _ _ _ h1)) (S' := (23, [some (.ref 0), some (.int a1)], [], r1, E)) rfl ?_
    refine gv_n hq 4 (S' := (31, [some (.ref 0), some (.int a1)], [.ref 19, .ref 37], r1, E)) rfl ?_
    obtain ⟨r2, h1, h⟩ := Option.bind_eq_some_iff.mp h
    refine gv_d hq rfl rfl rfl rfl rfl ((t_Sawing_begin X F d E _ _ h1)) (S' := (34, [some (.ref 0), some (.int a1)], [], r2, E)) rfl ?_
    refine gv_n hq 6 (S' := (46, [some (.ref 0), some (.int a1)], [.ref 19, .ref 34, .ref 37], r2, E)) rfl ?_
    obtain ⟨r3, h1, h⟩ := Option.bind_eq_some_iff.mp h
    refine gv_d hq rfl rfl rfl rfl rfl (gv_dd (by omega) (t_Sawing_countWays X F (d - 1) (by omega) E _ _ h1)) (S' := (49, [some (.ref 0), some (.int a1)], [.int r3.1], r3.2, E)) rfl ?_
    cases h
    exact ev_ret hq rfl rfl ⟨rfl, rfl, rfl⟩
def g_M_ways (F : Nat) (a1 : Int32) (D : mx_D) : Option (Int32 × mx_D) := (if (g_M_isYear D a1) = 0 then (some ((-2 : Int32), D)) else (Option.bind (g_M_sitters F D) (fun r1 => (Option.bind (g_M_sawAll F a1 r1 D) (fun r2 => (some ((r2 116 20), r2)))))))
set_option maxRecDepth 100000 in
set_option maxHeartbeats 4000000 in
theorem t_M_ways (X : ev_X) (F : Nat) (d : Nat) (hd : 7 ≤ d + 1) (E : mx_E) (a1 : Int32) (D : mx_D) (v : Int32 × mx_D) (h : g_M_ways F a1 D = some v) : ev X (d + 1) 255 (0, [some (.ref 116), some (.int a1)], [], D, E) (qR (some (.int v.1)) v.2 E) := by
  have hq : kq_m 255 = some kq_q255 := rfl
  unfold g_M_ways at h
  refine gv_n hq 2 (S' := (2, [some (.ref 116), some (.int a1)], [.int a1, .ref 116], D, E)) rfl ?_
  refine gv_d hq rfl rfl rfl rfl rfl (gv_dd (by omega) (t_M_isYear X (d - 1) (by omega) D E _ _ rfl)) (S' := (5, [some (.ref 116), some (.int a1)], [.int (g_M_isYear D a1)], D, E)) rfl ?_
  refine gv_b hq rfl h 8 11 rfl rfl rfl (fun h => ?_) (fun h => ?_)
  · refine gv_n hq 1 (S' := (10, [some (.ref 116), some (.int a1)], [.int (-2 : Int32)], D, E)) rfl ?_
    cases h
    exact ev_ret hq rfl rfl ⟨rfl, rfl, rfl⟩
  · refine gv_n hq 3 (S' := (14, [some (.ref 116), some (.int a1)], [.ref 116, .int a1, .ref 116], D, E)) rfl ?_
    obtain ⟨r1, h1, h⟩ := Option.bind_eq_some_iff.mp h
    refine gv_d hq rfl rfl rfl rfl rfl (gv_dd (by omega) (t_M_sitters X F (d - 1) (by omega) D E _ h1)) (S' := (17, [some (.ref 116), some (.int a1)], [.int r1, .int a1, .ref 116], D, E)) rfl ?_
    obtain ⟨r2, h1, h⟩ := Option.bind_eq_some_iff.mp h
    refine gv_d hq rfl rfl rfl rfl rfl (gv_dd (by omega) (t_M_sawAll X F (d - 1) (by omega) E _ _ _ _ h1)) (S' := (20, [some (.ref 116), some (.int a1)], [], r2, E)) rfl ?_
    refine gv_n hq 2 (S' := (24, [some (.ref 116), some (.int a1)], [.int (r2 116 20)], r2, E)) rfl ?_
    cases h
    exact ev_ret hq rfl rfl ⟨rfl, rfl, rfl⟩
def g_X_ever (F : Nat) (a1 : Int32) (D : mx_D) : Option (Int32 × mx_D) := (if (g_X_canAsk D a1) = 0 then (some ((-2 : Int32), D)) else (Option.bind (g_X_sawAsLongAsCan F (nI 0) a1 D) (fun r1 => (if a1 ≤ r1.1 then (Option.bind (g_Sawing_together F r1.2) (fun r2 => (some (r2, r1.2)))) else (some ((-1 : Int32), r1.2))))))
set_option maxRecDepth 100000 in
set_option maxHeartbeats 4000000 in
theorem t_X_ever (X : ev_X) (F : Nat) (d : Nat) (hd : 6 ≤ d + 1) (E : mx_E) (a1 : Int32) (D : mx_D) (v : Int32 × mx_D) (h : g_X_ever F a1 D = some v) : ev X (d + 1) 134 (0, [some (.ref 0), some (.int a1)], [], D, E) (qR (some (.int v.1)) v.2 E) := by
  have hq : kq_m 134 = some kq_q134 := rfl
  unfold g_X_ever at h
  refine gv_n hq 2 (S' := (2, [some (.ref 0), some (.int a1)], [.int a1, .ref 0], D, E)) rfl ?_
  refine gv_d hq rfl rfl rfl rfl rfl (gv_dd (by omega) (t_X_canAsk X (d - 1) (by omega) D E _ _ rfl)) (S' := (5, [some (.ref 0), some (.int a1)], [.int (g_X_canAsk D a1)], D, E)) rfl ?_
  refine gv_b hq rfl h 8 11 rfl rfl rfl (fun h => ?_) (fun h => ?_)
  · refine gv_n hq 1 (S' := (10, [some (.ref 0), some (.int a1)], [.int (-2 : Int32)], D, E)) rfl ?_
    cases h
    exact ev_ret hq rfl rfl ⟨rfl, rfl, rfl⟩
  · refine gv_n hq 3 (S' := (14, [some (.ref 0), some (.int a1)], [.int a1, .int (nI 0), .ref 0], D, E)) rfl ?_
    obtain ⟨r1, h1, h⟩ := Option.bind_eq_some_iff.mp h
    refine gv_d hq rfl rfl rfl rfl rfl (gv_dd (by omega) (t_X_sawAsLongAsCan X F (d - 1) (by omega) E _ _ _ _ h1)) (S' := (17, [some (.ref 0), some (.int a1)], [.int r1.1], r1.2, E)) rfl ?_
    refine gv_n hq 1 (S' := (18, [some (.ref 0), some (.int a1)], [.int a1, .int r1.1], r1.2, E)) rfl ?_
    refine gv_b hq rfl h 25 21 rfl rfl rfl (fun h => ?_) (fun h => ?_)
    · refine gv_n hq 2 (S' := (29, [some (.ref 0), some (.int a1)], [.ref 37], r1.2, E)) rfl ?_
      obtain ⟨r2, h1, h⟩ := Option.bind_eq_some_iff.mp h
      refine gv_d hq rfl rfl rfl rfl rfl ((t_Sawing_together X F d r1.2 E _ h1)) (S' := (32, [some (.ref 0), some (.int a1)], [.int r2], r1.2, E)) rfl ?_
      cases h
      exact ev_ret hq rfl rfl ⟨rfl, rfl, rfl⟩
    · refine gv_n hq 2 (S' := (32, [some (.ref 0), some (.int a1)], [.int (-1 : Int32)], r1.2, E)) rfl ?_
      cases h
      exact ev_ret hq rfl rfl ⟨rfl, rfl, rfl⟩
def b_M_code_4 (F : Nat) (D : mx_D) (k4 : Int32 → Int32 → Option (Int32)) (l1 : Int32) (l2 : Int32) : Option (Int32) := (if (nI 4) ≤ l2 then (some l1) else (if (D 117 0) ≤ l2 then (k4 (((nI 10) * l1) + (nI 0)) (l2 + (nI 1))) else (rk 4 l2 (k4 (((nI 10) * l1) + (D 125 (l2).toNatClampNeg)) (l2 + (nI 1))))))
set_option maxRecDepth 100000 in
set_option maxHeartbeats 4000000 in
theorem tb_M_code_4 (X : ev_X) (F : Nat) (d : Nat) (D : mx_D) (E : mx_E) (k4 : Int32 → Int32 → Option (Int32)) (K4 : ∀ (l1 : Int32) (l2 : Int32) (v : Int32), k4 l1 l2 = some v → ev X d 260 (4, [some (.ref 116), some (.int l1), some (.int l2)], [], D, E) (qR (some (.int v)) D E)) (l1 : Int32) (l2 : Int32) (v : Int32) (h : b_M_code_4 F D k4 l1 l2 = some v) : ev X d 260 (4, [some (.ref 116), some (.int l1), some (.int l2)], [], D, E) (qR (some (.int v)) D E) := by
  have hq : kq_m 260 = some kq_q260 := rfl
  unfold b_M_code_4 at h
  refine gv_n hq 2 (S' := (6, [some (.ref 116), some (.int l1), some (.int l2)], [.int (nI 4), .int l2], D, E)) rfl ?_
  refine gv_b hq rfl h 41 9 rfl rfl rfl (fun h => ?_) (fun h => ?_)
  · refine gv_n hq 1 (S' := (42, [some (.ref 116), some (.int l1), some (.int l2)], [.int l1], D, E)) rfl ?_
    cases h
    exact ev_ret hq rfl rfl ⟨rfl, rfl, rfl⟩
  · refine gv_n hq 8 (S' := (20, [some (.ref 116), some (.int l1), some (.int l2)], [.int (D 117 0), .int l2, .int ((nI 10) * l1)], D, E)) rfl ?_
    refine gv_b hq rfl h 32 23 rfl rfl rfl (fun h => ?_) (fun h => ?_)
    · refine gv_n hq 5 (S' := (4, [some (.ref 116), some (.int (((nI 10) * l1) + (nI 0))), some (.int (l2 + (nI 1)))], [], D, E)) rfl ?_
      exact gv_w (K4 _ _ _ h) (And.intro rfl (And.intro rfl (And.intro rfl trivial)))
    · refine gv_n hq 3 (S' := (28, [some (.ref 116), some (.int l1), some (.int l2)], [.int l2, .ref 125, .int ((nI 10) * l1)], D, E)) rfl ?_
      refine gv_ia hq rfl rfl rfl h 29 rfl (fun h => ?_)
      refine gv_n hq 5 (S' := (4, [some (.ref 116), some (.int (((nI 10) * l1) + (D 125 (l2).toNatClampNeg))), some (.int (l2 + (nI 1)))], [], D, E)) rfl ?_
      exact gv_w (K4 _ _ _ h) (And.intro rfl (And.intro rfl (And.intro rfl trivial)))
def g_M_code_4 (F : Nat) (D : mx_D) : Nat → Int32 → Int32 → Option (Int32) := it (fun k4 => b_M_code_4 F D k4) (fun _ _ => none)
set_option maxRecDepth 100000 in
set_option maxHeartbeats 4000000 in
theorem t_M_code_4 (X : ev_X) (F : Nat) (d : Nat) (D : mx_D) (E : mx_E)  : ∀ (n : Nat) (l1 : Int32) (l2 : Int32) (v : Int32), g_M_code_4 F D n l1 l2 = some v → ev X d 260 (4, [some (.ref 116), some (.int l1), some (.int l2)], [], D, E) (qR (some (.int v)) D E) := by
  intro n
  induction n with
  | zero => intro l1 l2 v h; cases h
  | succ n ih => intro l1 l2 v h; exact tb_M_code_4 X F d D E (g_M_code_4 F D n) ih l1 l2 v h
def g_M_code (F : Nat) (D : mx_D) : Option (Int32) := (g_M_code_4 F D F (nI 0) (nI 0))
set_option maxRecDepth 100000 in
set_option maxHeartbeats 4000000 in
theorem t_M_code (X : ev_X) (F : Nat) (d : Nat) (D : mx_D) (E : mx_E) (v : Int32) (h : g_M_code F D = some v) : ev X d 260 (0, [some (.ref 116), none, none], [], D, E) (qR (some (.int v)) D E) := by
  have hq : kq_m 260 = some kq_q260 := rfl
  unfold g_M_code at h
  refine gv_n hq 4 (S' := (4, [some (.ref 116), some (.int (nI 0)), some (.int (nI 0))], [], D, E)) rfl ?_
  exact gv_w (t_M_code_4 X F d D E F _ _ _ h) (And.intro rfl (And.intro rfl (And.intro rfl trivial)))
def b_M_unit_6 (F : Nat) (k6 : Int32 → Int32 → Option (Int32)) (l1 : Int32) (l2 : Int32) : Option (Int32) := (if (nI 4) ≤ l2 then (some l1) else (k6 (l1 * (nI 10)) (l2 + (nI 1))))
set_option maxRecDepth 100000 in
set_option maxHeartbeats 4000000 in
theorem tb_M_unit_6 (X : ev_X) (F : Nat) (d : Nat) (D : mx_D) (E : mx_E) (k6 : Int32 → Int32 → Option (Int32)) (K6 : ∀ (l1 : Int32) (l2 : Int32) (v : Int32), k6 l1 l2 = some v → ev X d 261 (6, [none, some (.int l1), some (.int l2)], [], D, E) (qR (some (.int v)) D E)) (l1 : Int32) (l2 : Int32) (v : Int32) (h : b_M_unit_6 F k6 l1 l2 = some v) : ev X d 261 (6, [none, some (.int l1), some (.int l2)], [], D, E) (qR (some (.int v)) D E) := by
  have hq : kq_m 261 = some kq_q261 := rfl
  unfold b_M_unit_6 at h
  refine gv_n hq 2 (S' := (8, [none, some (.int l1), some (.int l2)], [.int (nI 4), .int l2], D, E)) rfl ?_
  refine gv_b hq rfl h 22 11 rfl rfl rfl (fun h => ?_) (fun h => ?_)
  · refine gv_n hq 1 (S' := (23, [none, some (.int l1), some (.int l2)], [.int l1], D, E)) rfl ?_
    cases h
    exact ev_ret hq rfl rfl ⟨rfl, rfl, rfl⟩
  · refine gv_n hq 6 (S' := (6, [none, some (.int (l1 * (nI 10))), some (.int (l2 + (nI 1)))], [], D, E)) rfl ?_
    exact gv_w (K6 _ _ _ h) (And.intro rfl (And.intro rfl trivial))
def g_M_unit_6 (F : Nat) : Nat → Int32 → Int32 → Option (Int32) := it (fun k6 => b_M_unit_6 F k6) (fun _ _ => none)
set_option maxRecDepth 100000 in
set_option maxHeartbeats 4000000 in
theorem t_M_unit_6 (X : ev_X) (F : Nat) (d : Nat) (D : mx_D) (E : mx_E)  : ∀ (n : Nat) (l1 : Int32) (l2 : Int32) (v : Int32), g_M_unit_6 F n l1 l2 = some v → ev X d 261 (6, [none, some (.int l1), some (.int l2)], [], D, E) (qR (some (.int v)) D E) := by
  intro n
  induction n with
  | zero => intro l1 l2 v h; cases h
  | succ n ih => intro l1 l2 v h; exact tb_M_unit_6 X F d D E (g_M_unit_6 F n) ih l1 l2 v h
def g_M_unit (F : Nat) (a0 : Int32) : Option (Int32) := (g_M_unit_6 F F (nI 1) (a0 + (nI 1)))
set_option maxRecDepth 100000 in
set_option maxHeartbeats 4000000 in
theorem t_M_unit (X : ev_X) (F : Nat) (d : Nat) (D : mx_D) (E : mx_E) (a0 : Int32) (v : Int32) (h : g_M_unit F a0 = some v) : ev X d 261 (0, [some (.int a0), none, none], [], D, E) (qR (some (.int v)) D E) := by
  have hq : kq_m 261 = some kq_q261 := rfl
  unfold g_M_unit at h
  refine gv_n hq 6 (S' := (6, [some (.int a0), some (.int (nI 1)), some (.int (a0 + (nI 1)))], [], D, E)) rfl ?_
  exact gv_w (t_M_unit_6 X F d D E F _ _ _ h) (And.intro rfl (And.intro rfl trivial))
def b_M_spreads_68 (F : Nat) (k4 : mx_D → Option (mx_D)) (l1 : Int32) (D : mx_D) : Option (mx_D) := (Option.bind (g_M_code F D) (fun r3 => (rk 10000 r3 (Option.bind (g_M_nextSawing F (sD D 128 (r3).toNatClampNeg (vp_nar .boolean l1))) (fun r4 => (if r4.1 = 0 then (some r4.2) else (k4 r4.2)))))))
set_option maxRecDepth 100000 in
set_option maxHeartbeats 4000000 in
theorem tb_M_spreads_68 (X : ev_X) (F : Nat) (d : Nat) (hd : 2 ≤ d + 1) (E : mx_E) (k4 : mx_D → Option (mx_D)) (K4 : ∀ (D : mx_D) (v : mx_D), k4 D = some v → ev X (d + 1) 259 (4, [some (.ref 116), none, none], [], D, E) (qR none v E)) (l1 : Int32) (D : mx_D) (v : mx_D) (h : b_M_spreads_68 F k4 l1 D = some v) : ev X (d + 1) 259 (68, [some (.ref 116), some (.int l1), none], [], D, E) (qR none v E) := by
  have hq : kq_m 259 = some kq_q259 := rfl
  unfold b_M_spreads_68 at h
  refine gv_n hq 3 (S' := (73, [some (.ref 116), some (.int l1), none], [.ref 116, .ref 128], D, E)) rfl ?_
  obtain ⟨r3, h1, h⟩ := Option.bind_eq_some_iff.mp h
  refine gv_d hq rfl rfl rfl rfl rfl ((t_M_code X F d D E _ h1)) (S' := (76, [some (.ref 116), some (.int l1), none], [.int r3, .ref 128], D, E)) rfl ?_
  refine gv_n hq 1 (S' := (77, [some (.ref 116), some (.int l1), none], [.int l1, .int r3, .ref 128], D, E)) rfl ?_
  refine gv_bs2 hq rfl rfl h 78 rfl (fun h => ?_)
  refine gv_n hq 1 (S' := (79, [some (.ref 116), some (.int l1), none], [.ref 116], (sD D 128 (r3).toNatClampNeg (vp_nar .boolean l1)), E)) rfl ?_
  obtain ⟨r4, h1, h⟩ := Option.bind_eq_some_iff.mp h
  refine gv_d hq rfl rfl rfl rfl rfl (gv_dd (by omega) (t_M_nextSawing X F (d - 1) (by omega) E _ _ h1)) (S' := (82, [some (.ref 116), some (.int l1), none], [.int r4.1], r4.2, E)) rfl ?_
  refine gv_b hq rfl h 85 4 rfl rfl rfl (fun h => ?_) (fun h => ?_)
  · cases h
    exact ev_ret hq rfl rfl ⟨rfl, rfl, rfl⟩
  · exact gv_w (K4 _ _ h) (And.intro rfl trivial)
def b_M_spreads_16 (F : Nat) (k4 : mx_D → Option (mx_D)) (k16 : Int32 → Int32 → mx_D → Option (mx_D)) (l1 : Int32) (l2 : Int32) (D : mx_D) : Option (mx_D) := (if (D 117 0) ≤ l2 then (b_M_spreads_68 F k4 l1 D) else (if l1 = 0 then (rk 4 l2 (if (D 125 (l2).toNatClampNeg) ≤ 0 then (k16 (nI 0) (l2 + (nI 1)) D) else (Option.bind (g_M_code F D) (fun r5 => (Option.bind (g_M_unit F l2) (fun r6 => (rk 10000 (r5 - r6) (if (D 128 ((r5 - r6)).toNatClampNeg) = 0 then (k16 (nI 0) (l2 + (nI 1)) D) else (k16 (nI 1) (l2 + (nI 1)) D))))))))) else (b_M_spreads_68 F k4 l1 D)))
set_option maxRecDepth 100000 in
set_option maxHeartbeats 4000000 in
theorem tb_M_spreads_16 (X : ev_X) (F : Nat) (d : Nat) (hd : 2 ≤ d + 1) (E : mx_E) (k4 : mx_D → Option (mx_D)) (k16 : Int32 → Int32 → mx_D → Option (mx_D)) (K4 : ∀ (D : mx_D) (v : mx_D), k4 D = some v → ev X (d + 1) 259 (4, [some (.ref 116), none, none], [], D, E) (qR none v E)) (K16 : ∀ (l1 : Int32) (l2 : Int32) (D : mx_D) (v : mx_D), k16 l1 l2 D = some v → ev X (d + 1) 259 (16, [some (.ref 116), some (.int l1), some (.int l2)], [], D, E) (qR none v E)) (l1 : Int32) (l2 : Int32) (D : mx_D) (v : mx_D) (h : b_M_spreads_16 F k4 k16 l1 l2 D = some v) : ev X (d + 1) 259 (16, [some (.ref 116), some (.int l1), some (.int l2)], [], D, E) (qR none v E) := by
  have hq : kq_m 259 = some kq_q259 := rfl
  unfold b_M_spreads_16 at h
  refine gv_n hq 5 (S' := (23, [some (.ref 116), some (.int l1), some (.int l2)], [.int (D 117 0), .int l2], D, E)) rfl ?_
  refine gv_b hq rfl h 68 26 rfl rfl rfl (fun h => ?_) (fun h => ?_)
  · exact gv_w (tb_M_spreads_68 X F d hd E k4 K4 _ _ _ h) (And.intro rfl (And.intro rfl trivial))
  · refine gv_n hq 1 (S' := (27, [some (.ref 116), some (.int l1), some (.int l2)], [.int l1], D, E)) rfl ?_
    refine gv_b hq rfl h 30 68 rfl rfl rfl (fun h => ?_) (fun h => ?_)
    · refine gv_n hq 3 (S' := (35, [some (.ref 116), some (.int l1), some (.int l2)], [.int l2, .ref 125], D, E)) rfl ?_
      refine gv_ia hq rfl rfl rfl h 36 rfl (fun h => ?_)
      refine gv_b hq rfl h 60 39 rfl rfl rfl (fun h => ?_) (fun h => ?_)
      · refine gv_n hq 4 (S' := (16, [some (.ref 116), some (.int (nI 0)), some (.int (l2 + (nI 1)))], [], D, E)) rfl ?_
        exact gv_w (K16 _ _ _ _ h) (And.intro rfl (And.intro rfl (And.intro rfl trivial)))
      · refine gv_n hq 3 (S' := (44, [some (.ref 116), some (.int l1), some (.int l2)], [.ref 116, .ref 128], D, E)) rfl ?_
        obtain ⟨r5, h1, h⟩ := Option.bind_eq_some_iff.mp h
        refine gv_d hq rfl rfl rfl rfl rfl ((t_M_code X F d D E _ h1)) (S' := (47, [some (.ref 116), some (.int l1), some (.int l2)], [.int r5, .ref 128], D, E)) rfl ?_
        refine gv_n hq 1 (S' := (48, [some (.ref 116), some (.int l1), some (.int l2)], [.int l2, .int r5, .ref 128], D, E)) rfl ?_
        obtain ⟨r6, h1, h⟩ := Option.bind_eq_some_iff.mp h
        refine gv_d hq rfl rfl rfl rfl rfl ((t_M_unit X F d D E _ _ h1)) (S' := (51, [some (.ref 116), some (.int l1), some (.int l2)], [.int r6, .int r5, .ref 128], D, E)) rfl ?_
        refine gv_n hq 1 (S' := (52, [some (.ref 116), some (.int l1), some (.int l2)], [.int (r5 - r6), .ref 128], D, E)) rfl ?_
        refine gv_ba2 hq rfl rfl h 53 rfl (fun h => ?_)
        refine gv_b hq rfl h 60 56 rfl rfl rfl (fun h => ?_) (fun h => ?_)
        · refine gv_n hq 4 (S' := (16, [some (.ref 116), some (.int (nI 0)), some (.int (l2 + (nI 1)))], [], D, E)) rfl ?_
          exact gv_w (K16 _ _ _ _ h) (And.intro rfl (And.intro rfl (And.intro rfl trivial)))
        · refine gv_n hq 5 (S' := (16, [some (.ref 116), some (.int (nI 1)), some (.int (l2 + (nI 1)))], [], D, E)) rfl ?_
          exact gv_w (K16 _ _ _ _ h) (And.intro rfl (And.intro rfl (And.intro rfl trivial)))
    · exact gv_w (tb_M_spreads_68 X F d hd E k4 K4 _ _ _ h) (And.intro rfl (And.intro rfl trivial))
def g_M_spreads_16 (F : Nat) (k4 : mx_D → Option (mx_D)) : Nat → Int32 → Int32 → mx_D → Option (mx_D) := it (fun k16 => b_M_spreads_16 F k4 k16) (fun _ _ _ => none)
set_option maxRecDepth 100000 in
set_option maxHeartbeats 4000000 in
theorem t_M_spreads_16 (X : ev_X) (F : Nat) (d : Nat) (hd : 2 ≤ d + 1) (E : mx_E) (k4 : mx_D → Option (mx_D)) (K4 : ∀ (D : mx_D) (v : mx_D), k4 D = some v → ev X (d + 1) 259 (4, [some (.ref 116), none, none], [], D, E) (qR none v E)) : ∀ (n : Nat) (l1 : Int32) (l2 : Int32) (D : mx_D) (v : mx_D), g_M_spreads_16 F k4 n l1 l2 D = some v → ev X (d + 1) 259 (16, [some (.ref 116), some (.int l1), some (.int l2)], [], D, E) (qR none v E) := by
  intro n
  induction n with
  | zero => intro l1 l2 D v h; cases h
  | succ n ih => intro l1 l2 D v h; exact tb_M_spreads_16 X F d hd E k4 (g_M_spreads_16 F k4 n) K4 ih l1 l2 D v h
def b_M_spreads_4 (F : Nat) (k4 : mx_D → Option (mx_D)) (D : mx_D) : Option (mx_D) := (Option.bind (g_M_code F D) (fun r2 => (rk 10000 r2 (g_M_spreads_16 F k4 F (D 128 (r2).toNatClampNeg) (nI 0) D))))
set_option maxRecDepth 100000 in
set_option maxHeartbeats 4000000 in
theorem tb_M_spreads_4 (X : ev_X) (F : Nat) (d : Nat) (hd : 2 ≤ d + 1) (E : mx_E) (k4 : mx_D → Option (mx_D)) (K4 : ∀ (D : mx_D) (v : mx_D), k4 D = some v → ev X (d + 1) 259 (4, [some (.ref 116), none, none], [], D, E) (qR none v E)) (D : mx_D) (v : mx_D) (h : b_M_spreads_4 F k4 D = some v) : ev X (d + 1) 259 (4, [some (.ref 116), none, none], [], D, E) (qR none v E) := by
  have hq : kq_m 259 = some kq_q259 := rfl
  unfold b_M_spreads_4 at h
  refine gv_n hq 3 (S' := (9, [some (.ref 116), none, none], [.ref 116, .ref 128], D, E)) rfl ?_
  obtain ⟨r2, h1, h⟩ := Option.bind_eq_some_iff.mp h
  refine gv_d hq rfl rfl rfl rfl rfl ((t_M_code X F d D E _ h1)) (S' := (12, [some (.ref 116), none, none], [.int r2, .ref 128], D, E)) rfl ?_
  refine gv_ba2 hq rfl rfl h 13 rfl (fun h => ?_)
  refine gv_n hq 3 (S' := (16, [some (.ref 116), some (.int (D 128 (r2).toNatClampNeg)), some (.int (nI 0))], [], D, E)) rfl ?_
  exact gv_w (t_M_spreads_16 X F d hd E k4 K4 F _ _ _ _ h) (And.intro rfl (And.intro rfl (And.intro rfl trivial)))
def g_M_spreads_4 (F : Nat) : Nat → mx_D → Option (mx_D) := it (fun k4 => b_M_spreads_4 F k4) (fun _ => none)
set_option maxRecDepth 100000 in
set_option maxHeartbeats 4000000 in
theorem t_M_spreads_4 (X : ev_X) (F : Nat) (d : Nat) (hd : 2 ≤ d + 1) (E : mx_E)  : ∀ (n : Nat) (D : mx_D) (v : mx_D), g_M_spreads_4 F n D = some v → ev X (d + 1) 259 (4, [some (.ref 116), none, none], [], D, E) (qR none v E) := by
  intro n
  induction n with
  | zero => intro D v h; cases h
  | succ n ih => intro D v h; exact tb_M_spreads_4 X F d hd E (g_M_spreads_4 F n) ih D v h
def g_M_spreads (F : Nat) (D : mx_D) : Option (mx_D) := (Option.bind (g_M_beginsSawing F D) (fun r1 => (g_M_spreads_4 F F r1)))
set_option maxRecDepth 100000 in
set_option maxHeartbeats 4000000 in
theorem t_M_spreads (X : ev_X) (F : Nat) (d : Nat) (hd : 2 ≤ d + 1) (E : mx_E) (D : mx_D) (v : mx_D) (h : g_M_spreads F D = some v) : ev X (d + 1) 259 (0, [some (.ref 116), none, none], [], D, E) (qR none v E) := by
  have hq : kq_m 259 = some kq_q259 := rfl
  unfold g_M_spreads at h
  refine gv_n hq 1 (S' := (1, [some (.ref 116), none, none], [.ref 116], D, E)) rfl ?_
  obtain ⟨r1, h1, h⟩ := Option.bind_eq_some_iff.mp h
  refine gv_d hq rfl rfl rfl rfl rfl (gv_dd (by omega) (t_M_beginsSawing X F (d - 1) (by omega) E _ _ h1)) (S' := (4, [some (.ref 116), none, none], [], r1, E)) rfl ?_
  exact gv_w (t_M_spreads_4 X F d hd E F _ _ h) (And.intro rfl trivial)
def b_M_goesOn_82 (F : Nat) (k20 : Int32 → mx_D → Option (Int32 × mx_D)) (l3 : Int32) (s0 : Int32) (D : mx_D) : Option (Int32 × mx_D) := (if l3 = 0 then (Option.bind (g_M_nextSawing F D) (fun r7 => (if r7.1 = 0 then (zk s0 (some (s0, r7.2))) else (k20 s0 r7.2)))) else (Option.bind (g_M_keepIfBest F D) (fun r8 => (Option.bind (g_M_nextSawing F r8) (fun r9 => (if r9.1 = 0 then (zk s0 (some (s0, r9.2))) else (k20 s0 r9.2)))))))
set_option maxRecDepth 100000 in
set_option maxHeartbeats 4000000 in
theorem tb_M_goesOn_82 (X : ev_X) (F : Nat) (d : Nat) (hd : 6 ≤ d + 1) (E : mx_E) (k20 : Int32 → mx_D → Option (Int32 × mx_D)) (K20 : ∀ (l2 : Int32) (D : mx_D) (v : Int32 × mx_D), k20 l2 D = some v → ev X (d + 1) 258 (20, [some (.ref 116), none, some (.int l2), none], [], D, E) (qR (some (.int v.1)) v.2 E)) (l3 : Int32) (s0 : Int32) (D : mx_D) (v : Int32 × mx_D) (h : b_M_goesOn_82 F k20 l3 s0 D = some v) : ev X (d + 1) 258 (82, [some (.ref 116), none, none, some (.int l3)], [.int s0], D, E) (qR (some (.int v.1)) v.2 E) := by
  have hq : kq_m 258 = some kq_q258 := rfl
  unfold b_M_goesOn_82 at h
  refine gv_n hq 2 (S' := (84, [some (.ref 116), none, some (.int s0), some (.int l3)], [.int l3], D, E)) rfl ?_
  refine gv_b hq rfl h 91 87 rfl rfl rfl (fun h => ?_) (fun h => ?_)
  · refine gv_n hq 1 (S' := (92, [some (.ref 116), none, some (.int s0), some (.int l3)], [.ref 116], D, E)) rfl ?_
    obtain ⟨r7, h1, h⟩ := Option.bind_eq_some_iff.mp h
    refine gv_d hq rfl rfl rfl rfl rfl (gv_dd (by omega) (t_M_nextSawing X F (d - 1) (by omega) E _ _ h1)) (S' := (95, [some (.ref 116), none, some (.int s0), some (.int l3)], [.int r7.1], r7.2, E)) rfl ?_
    refine gv_b hq rfl h 98 20 rfl rfl rfl (fun h => ?_) (fun h => ?_)
    · refine gv_n hq 1 (S' := (99, [some (.ref 116), none, some (.int s0), some (.int l3)], [.int s0], r7.2, E)) rfl ?_
      obtain ⟨hz, h⟩ := gv_zi h
      cases h
      exact ev_rz hq rfl rfl rfl hz ⟨rfl, rfl, rfl⟩
    · exact gv_w (K20 _ _ _ h) (And.intro rfl (And.intro rfl trivial))
  · refine gv_n hq 1 (S' := (88, [some (.ref 116), none, some (.int s0), some (.int l3)], [.ref 116], D, E)) rfl ?_
    obtain ⟨r8, h1, h⟩ := Option.bind_eq_some_iff.mp h
    refine gv_d hq rfl rfl rfl rfl rfl (gv_dd (by omega) (t_M_keepIfBest X F (d - 1) (by omega) E _ _ h1)) (S' := (91, [some (.ref 116), none, some (.int s0), some (.int l3)], [], r8, E)) rfl ?_
    refine gv_n hq 1 (S' := (92, [some (.ref 116), none, some (.int s0), some (.int l3)], [.ref 116], r8, E)) rfl ?_
    obtain ⟨r9, h1, h⟩ := Option.bind_eq_some_iff.mp h
    refine gv_d hq rfl rfl rfl rfl rfl (gv_dd (by omega) (t_M_nextSawing X F (d - 1) (by omega) E _ _ h1)) (S' := (95, [some (.ref 116), none, some (.int s0), some (.int l3)], [.int r9.1], r9.2, E)) rfl ?_
    refine gv_b hq rfl h 98 20 rfl rfl rfl (fun h => ?_) (fun h => ?_)
    · refine gv_n hq 1 (S' := (99, [some (.ref 116), none, some (.int s0), some (.int l3)], [.int s0], r9.2, E)) rfl ?_
      obtain ⟨hz, h⟩ := gv_zi h
      cases h
      exact ev_rz hq rfl rfl rfl hz ⟨rfl, rfl, rfl⟩
    · exact gv_w (K20 _ _ _ h) (And.intro rfl (And.intro rfl trivial))
def b_M_goesOn_77 (F : Nat) (k20 : Int32 → mx_D → Option (Int32 × mx_D)) (l3 : Int32) (D : mx_D) : Option (Int32 × mx_D) := (b_M_goesOn_82 F k20 l3 (nI 1) D)
set_option maxRecDepth 100000 in
set_option maxHeartbeats 4000000 in
theorem tb_M_goesOn_77 (X : ev_X) (F : Nat) (d : Nat) (hd : 6 ≤ d + 1) (E : mx_E) (k20 : Int32 → mx_D → Option (Int32 × mx_D)) (K20 : ∀ (l2 : Int32) (D : mx_D) (v : Int32 × mx_D), k20 l2 D = some v → ev X (d + 1) 258 (20, [some (.ref 116), none, some (.int l2), none], [], D, E) (qR (some (.int v.1)) v.2 E)) (l3 : Int32) (D : mx_D) (v : Int32 × mx_D) (h : b_M_goesOn_77 F k20 l3 D = some v) : ev X (d + 1) 258 (77, [some (.ref 116), none, none, some (.int l3)], [], D, E) (qR (some (.int v.1)) v.2 E) := by
  have hq : kq_m 258 = some kq_q258 := rfl
  unfold b_M_goesOn_77 at h
  refine gv_n hq 2 (S' := (82, [some (.ref 116), none, none, some (.int l3)], [.int (nI 1)], D, E)) rfl ?_
  exact gv_w (tb_M_goesOn_82 X F d hd E k20 K20 _ _ _ _ h) (And.intro rfl (And.intro rfl trivial))
def b_M_goesOn_58 (F : Nat) (k20 : Int32 → mx_D → Option (Int32 × mx_D)) (l2 : Int32) (s0 : Int32) (D : mx_D) : Option (Int32 × mx_D) := (Option.bind (g_M_code F D) (fun r6 => (rk 10000 r6 (if l2 = 0 then (if s0 = 0 then (b_M_goesOn_82 F k20 s0 (nI 0) (sD D 128 (r6).toNatClampNeg (vp_nar .boolean s0))) else (b_M_goesOn_77 F k20 s0 (sD D 128 (r6).toNatClampNeg (vp_nar .boolean s0)))) else (b_M_goesOn_77 F k20 s0 (sD D 128 (r6).toNatClampNeg (vp_nar .boolean s0)))))))
set_option maxRecDepth 100000 in
set_option maxHeartbeats 4000000 in
theorem tb_M_goesOn_58 (X : ev_X) (F : Nat) (d : Nat) (hd : 6 ≤ d + 1) (E : mx_E) (k20 : Int32 → mx_D → Option (Int32 × mx_D)) (K20 : ∀ (l2 : Int32) (D : mx_D) (v : Int32 × mx_D), k20 l2 D = some v → ev X (d + 1) 258 (20, [some (.ref 116), none, some (.int l2), none], [], D, E) (qR (some (.int v.1)) v.2 E)) (l2 : Int32) (s0 : Int32) (D : mx_D) (v : Int32 × mx_D) (h : b_M_goesOn_58 F k20 l2 s0 D = some v) : ev X (d + 1) 258 (58, [some (.ref 116), none, some (.int l2), none], [.int s0], D, E) (qR (some (.int v.1)) v.2 E) := by
  have hq : kq_m 258 = some kq_q258 := rfl
  unfold b_M_goesOn_58 at h
  refine gv_n hq 4 (S' := (64, [some (.ref 116), none, some (.int l2), some (.int s0)], [.ref 116, .ref 128], D, E)) rfl ?_
  obtain ⟨r6, h1, h⟩ := Option.bind_eq_some_iff.mp h
  refine gv_d hq rfl rfl rfl rfl rfl ((t_M_code X F d D E _ h1)) (S' := (67, [some (.ref 116), none, some (.int l2), some (.int s0)], [.int r6, .ref 128], D, E)) rfl ?_
  refine gv_n hq 1 (S' := (68, [some (.ref 116), none, some (.int l2), some (.int s0)], [.int s0, .int r6, .ref 128], D, E)) rfl ?_
  refine gv_bs2 hq rfl rfl h 69 rfl (fun h => ?_)
  refine gv_n hq 1 (S' := (70, [some (.ref 116), none, some (.int l2), some (.int s0)], [.int l2], (sD D 128 (r6).toNatClampNeg (vp_nar .boolean s0)), E)) rfl ?_
  refine gv_b hq rfl h 73 77 rfl rfl rfl (fun h => ?_) (fun h => ?_)
  · refine gv_n hq 1 (S' := (74, [some (.ref 116), none, some (.int l2), some (.int s0)], [.int s0], (sD D 128 (r6).toNatClampNeg (vp_nar .boolean s0)), E)) rfl ?_
    refine gv_b hq rfl h 81 77 rfl rfl rfl (fun h => ?_) (fun h => ?_)
    · refine gv_n hq 1 (S' := (82, [some (.ref 116), none, some (.int l2), some (.int s0)], [.int (nI 0)], (sD D 128 (r6).toNatClampNeg (vp_nar .boolean s0)), E)) rfl ?_
      exact gv_w (tb_M_goesOn_82 X F d hd E k20 K20 _ _ _ _ h) (And.intro rfl (And.intro rfl trivial))
    · exact gv_w (tb_M_goesOn_77 X F d hd E k20 K20 _ _ _ h) (And.intro rfl (And.intro rfl trivial))
  · exact gv_w (tb_M_goesOn_77 X F d hd E k20 K20 _ _ _ h) (And.intro rfl (And.intro rfl trivial))
def b_M_goesOn_57 (F : Nat) (k20 : Int32 → mx_D → Option (Int32 × mx_D)) (l2 : Int32) (D : mx_D) : Option (Int32 × mx_D) := (b_M_goesOn_58 F k20 l2 (nI 0) D)
set_option maxRecDepth 100000 in
set_option maxHeartbeats 4000000 in
theorem tb_M_goesOn_57 (X : ev_X) (F : Nat) (d : Nat) (hd : 6 ≤ d + 1) (E : mx_E) (k20 : Int32 → mx_D → Option (Int32 × mx_D)) (K20 : ∀ (l2 : Int32) (D : mx_D) (v : Int32 × mx_D), k20 l2 D = some v → ev X (d + 1) 258 (20, [some (.ref 116), none, some (.int l2), none], [], D, E) (qR (some (.int v.1)) v.2 E)) (l2 : Int32) (D : mx_D) (v : Int32 × mx_D) (h : b_M_goesOn_57 F k20 l2 D = some v) : ev X (d + 1) 258 (57, [some (.ref 116), none, some (.int l2), none], [], D, E) (qR (some (.int v.1)) v.2 E) := by
  have hq : kq_m 258 = some kq_q258 := rfl
  unfold b_M_goesOn_57 at h
  refine gv_n hq 1 (S' := (58, [some (.ref 116), none, some (.int l2), none], [.int (nI 0)], D, E)) rfl ?_
  exact gv_w (tb_M_goesOn_58 X F d hd E k20 K20 _ _ _ _ h) (And.intro rfl (And.intro rfl trivial))
def b_M_goesOn_20 (F : Nat) (k20 : Int32 → mx_D → Option (Int32 × mx_D)) (l2 : Int32) (D : mx_D) : Option (Int32 × mx_D) := (Option.bind (g_M_layMore F D) (fun r4 => (Option.bind (g_M_code F r4) (fun r5 => (rk 10000 r5 (if (r4 128 (r5).toNatClampNeg) = 0 then (b_M_goesOn_57 F k20 l2 r4) else (Option.bind (g_M_sitters F r4) (fun r10 => (Option.bind (g_M_unlevel F r4 r10) (fun r11 => (if (r4 117 2) < r11 then (b_M_goesOn_57 F k20 l2 r4) else (b_M_goesOn_58 F k20 l2 (nI 1) r4))))))))))))
set_option maxRecDepth 100000 in
set_option maxHeartbeats 4000000 in
theorem tb_M_goesOn_20 (X : ev_X) (F : Nat) (d : Nat) (hd : 6 ≤ d + 1) (E : mx_E) (k20 : Int32 → mx_D → Option (Int32 × mx_D)) (K20 : ∀ (l2 : Int32) (D : mx_D) (v : Int32 × mx_D), k20 l2 D = some v → ev X (d + 1) 258 (20, [some (.ref 116), none, some (.int l2), none], [], D, E) (qR (some (.int v.1)) v.2 E)) (l2 : Int32) (D : mx_D) (v : Int32 × mx_D) (h : b_M_goesOn_20 F k20 l2 D = some v) : ev X (d + 1) 258 (20, [some (.ref 116), none, some (.int l2), none], [], D, E) (qR (some (.int v.1)) v.2 E) := by
  have hq : kq_m 258 = some kq_q258 := rfl
  unfold b_M_goesOn_20 at h
  refine gv_n hq 1 (S' := (21, [some (.ref 116), none, some (.int l2), none], [.ref 116], D, E)) rfl ?_
  obtain ⟨r4, h1, h⟩ := Option.bind_eq_some_iff.mp h
  refine gv_d hq rfl rfl rfl rfl rfl (gv_dd (by omega) (t_M_layMore X F (d - 1) (by omega) E _ _ h1)) (S' := (24, [some (.ref 116), none, some (.int l2), none], [], r4, E)) rfl ?_
  refine gv_n hq 3 (S' := (29, [some (.ref 116), none, some (.int l2), none], [.ref 116, .ref 128], r4, E)) rfl ?_
  obtain ⟨r5, h1, h⟩ := Option.bind_eq_some_iff.mp h
  refine gv_d hq rfl rfl rfl rfl rfl ((t_M_code X F d r4 E _ h1)) (S' := (32, [some (.ref 116), none, some (.int l2), none], [.int r5, .ref 128], r4, E)) rfl ?_
  refine gv_ba2 hq rfl rfl h 33 rfl (fun h => ?_)
  refine gv_b hq rfl h 57 36 rfl rfl rfl (fun h => ?_) (fun h => ?_)
  · exact gv_w (tb_M_goesOn_57 X F d hd E k20 K20 _ _ _ h) (And.intro rfl (And.intro rfl trivial))
  · refine gv_n hq 2 (S' := (38, [some (.ref 116), none, some (.int l2), none], [.ref 116, .ref 116], r4, E)) rfl ?_
    obtain ⟨r10, h1, h⟩ := Option.bind_eq_some_iff.mp h
    refine gv_d hq rfl rfl rfl rfl rfl (gv_dd (by omega) (t_M_sitters X F (d - 1) (by omega) r4 E _ h1)) (S' := (41, [some (.ref 116), none, some (.int l2), none], [.int r10, .ref 116], r4, E)) rfl ?_
    obtain ⟨r11, h1, h⟩ := Option.bind_eq_some_iff.mp h
    refine gv_d hq rfl rfl rfl rfl rfl (gv_dd (by omega) (t_M_unlevel X F (d - 1) (by omega) r4 E _ _ h1)) (S' := (44, [some (.ref 116), none, some (.int l2), none], [.int r11], r4, E)) rfl ?_
    refine gv_n hq 4 (S' := (50, [some (.ref 116), none, some (.int l2), none], [.int (r4 117 2), .int r11], r4, E)) rfl ?_
    refine gv_b hq rfl h 57 53 rfl rfl rfl (fun h => ?_) (fun h => ?_)
    · exact gv_w (tb_M_goesOn_57 X F d hd E k20 K20 _ _ _ h) (And.intro rfl (And.intro rfl trivial))
    · refine gv_n hq 2 (S' := (58, [some (.ref 116), none, some (.int l2), none], [.int (nI 1)], r4, E)) rfl ?_
      exact gv_w (tb_M_goesOn_58 X F d hd E k20 K20 _ _ _ _ h) (And.intro rfl (And.intro rfl trivial))
def g_M_goesOn_20 (F : Nat) : Nat → Int32 → mx_D → Option (Int32 × mx_D) := it (fun k20 => b_M_goesOn_20 F k20) (fun _ _ => none)
set_option maxRecDepth 100000 in
set_option maxHeartbeats 4000000 in
theorem t_M_goesOn_20 (X : ev_X) (F : Nat) (d : Nat) (hd : 6 ≤ d + 1) (E : mx_E)  : ∀ (n : Nat) (l2 : Int32) (D : mx_D) (v : Int32 × mx_D), g_M_goesOn_20 F n l2 D = some v → ev X (d + 1) 258 (20, [some (.ref 116), none, some (.int l2), none], [], D, E) (qR (some (.int v.1)) v.2 E) := by
  intro n
  induction n with
  | zero => intro l2 D v h; cases h
  | succ n ih => intro l2 D v h; exact tb_M_goesOn_20 X F d hd E (g_M_goesOn_20 F n) ih l2 D v h
def g_M_goesOn (F : Nat) (a1 : Int32) (D : mx_D) : Option (Int32 × mx_D) := (Option.bind (g_M_spreads F D) (fun r1 => (Option.bind (g_M_keepUnsawn F a1 (sD r1 116 19 (-1 : Int32))) (fun r2 => (Option.bind (g_M_beginsSawing F r2) (fun r3 => (g_M_goesOn_20 F F (nI 0) r3)))))))
set_option maxRecDepth 100000 in
set_option maxHeartbeats 4000000 in
theorem t_M_goesOn (X : ev_X) (F : Nat) (d : Nat) (hd : 6 ≤ d + 1) (E : mx_E) (a1 : Int32) (D : mx_D) (v : Int32 × mx_D) (h : g_M_goesOn F a1 D = some v) : ev X (d + 1) 258 (0, [some (.ref 116), some (.int a1), none, none], [], D, E) (qR (some (.int v.1)) v.2 E) := by
  have hq : kq_m 258 = some kq_q258 := rfl
  unfold g_M_goesOn at h
  refine gv_n hq 1 (S' := (1, [some (.ref 116), some (.int a1), none, none], [.ref 116], D, E)) rfl ?_
  obtain ⟨r1, h1, h⟩ := Option.bind_eq_some_iff.mp h
  refine gv_d hq rfl rfl rfl rfl rfl (gv_dd (by omega) (t_M_spreads X F (d - 1) (by omega) E _ _ h1)) (S' := (4, [some (.ref 116), some (.int a1), none, none], [], r1, E)) rfl ?_
  refine gv_n hq 7 (S' := (13, [some (.ref 116), some (.int a1), some (.int (nI 0)), none], [.int a1, .ref 116], (sD r1 116 19 (-1 : Int32)), E)) rfl ?_
  obtain ⟨r2, h1, h⟩ := Option.bind_eq_some_iff.mp h
  refine gv_d hq rfl rfl rfl rfl rfl (gv_dd (by omega) (t_M_keepUnsawn X F (d - 1) (by omega) E _ _ _ h1)) (S' := (16, [some (.ref 116), some (.int a1), some (.int (nI 0)), none], [], r2, E)) rfl ?_
  refine gv_n hq 1 (S' := (17, [some (.ref 116), some (.int a1), some (.int (nI 0)), none], [.ref 116], r2, E)) rfl ?_
  obtain ⟨r3, h1, h⟩ := Option.bind_eq_some_iff.mp h
  refine gv_d hq rfl rfl rfl rfl rfl (gv_dd (by omega) (t_M_beginsSawing X F (d - 1) (by omega) E _ _ h1)) (S' := (20, [some (.ref 116), some (.int a1), some (.int (nI 0)), none], [], r3, E)) rfl ?_
  exact gv_w (t_M_goesOn_20 X F d hd E F _ _ _ h) (And.intro rfl (And.intro rfl trivial))
def b_M_plansUpTo_34 (F : Nat) (k34 : Int32 → Int32 → mx_D → Option (Int32 × mx_D)) (l1 : Int32) (l2 : Int32) (D : mx_D) : Option (Int32 × mx_D) := (if l1 < l2 then (some (l1, D)) else (Option.bind (g_M_goesOn F l2 D) (fun r1 => (if r1.1 = 0 then (some ((l2 - (nI 1)), r1.2)) else (k34 l1 (l2 + (nI 1)) r1.2)))))
set_option maxRecDepth 100000 in
set_option maxHeartbeats 4000000 in
theorem tb_M_plansUpTo_34 (X : ev_X) (F : Nat) (d : Nat) (hd : 7 ≤ d + 1) (E : mx_E) (k34 : Int32 → Int32 → mx_D → Option (Int32 × mx_D)) (K34 : ∀ (l1 : Int32) (l2 : Int32) (D : mx_D) (v : Int32 × mx_D), k34 l1 l2 D = some v → ev X (d + 1) 257 (34, [some (.ref 116), some (.int l1), some (.int l2)], [], D, E) (qR (some (.int v.1)) v.2 E)) (l1 : Int32) (l2 : Int32) (D : mx_D) (v : Int32 × mx_D) (h : b_M_plansUpTo_34 F k34 l1 l2 D = some v) : ev X (d + 1) 257 (34, [some (.ref 116), some (.int l1), some (.int l2)], [], D, E) (qR (some (.int v.1)) v.2 E) := by
  have hq : kq_m 257 = some kq_q257 := rfl
  unfold b_M_plansUpTo_34 at h
  refine gv_n hq 2 (S' := (36, [some (.ref 116), some (.int l1), some (.int l2)], [.int l1, .int l2], D, E)) rfl ?_
  refine gv_b hq rfl h 57 39 rfl rfl rfl (fun h => ?_) (fun h => ?_)
  · refine gv_n hq 1 (S' := (58, [some (.ref 116), some (.int l1), some (.int l2)], [.int l1], D, E)) rfl ?_
    cases h
    exact ev_ret hq rfl rfl ⟨rfl, rfl, rfl⟩
  · refine gv_n hq 2 (S' := (41, [some (.ref 116), some (.int l1), some (.int l2)], [.int l2, .ref 116], D, E)) rfl ?_
    obtain ⟨r1, h1, h⟩ := Option.bind_eq_some_iff.mp h
    refine gv_d hq rfl rfl rfl rfl rfl (gv_dd (by omega) (t_M_goesOn X F (d - 1) (by omega) E _ _ _ h1)) (S' := (44, [some (.ref 116), some (.int l1), some (.int l2)], [.int r1.1], r1.2, E)) rfl ?_
    refine gv_b hq rfl h 47 51 rfl rfl rfl (fun h => ?_) (fun h => ?_)
    · refine gv_n hq 3 (S' := (50, [some (.ref 116), some (.int l1), some (.int l2)], [.int (l2 - (nI 1))], r1.2, E)) rfl ?_
      cases h
      exact ev_ret hq rfl rfl ⟨rfl, rfl, rfl⟩
    · refine gv_n hq 2 (S' := (34, [some (.ref 116), some (.int l1), some (.int (l2 + (nI 1)))], [], r1.2, E)) rfl ?_
      exact gv_w (K34 _ _ _ _ h) (And.intro rfl (And.intro rfl (And.intro rfl trivial)))
def g_M_plansUpTo_34 (F : Nat) : Nat → Int32 → Int32 → mx_D → Option (Int32 × mx_D) := it (fun k34 => b_M_plansUpTo_34 F k34) (fun _ _ _ => none)
set_option maxRecDepth 100000 in
set_option maxHeartbeats 4000000 in
theorem t_M_plansUpTo_34 (X : ev_X) (F : Nat) (d : Nat) (hd : 7 ≤ d + 1) (E : mx_E)  : ∀ (n : Nat) (l1 : Int32) (l2 : Int32) (D : mx_D) (v : Int32 × mx_D), g_M_plansUpTo_34 F n l1 l2 D = some v → ev X (d + 1) 257 (34, [some (.ref 116), some (.int l1), some (.int l2)], [], D, E) (qR (some (.int v.1)) v.2 E) := by
  intro n
  induction n with
  | zero => intro l1 l2 D v h; cases h
  | succ n ih => intro l1 l2 D v h; exact tb_M_plansUpTo_34 X F d hd E (g_M_plansUpTo_34 F n) ih l1 l2 D v h
def b_M_plansUpTo_2 (F : Nat) (k2 : Int32 → Int32 → mx_D → Option (Int32 × mx_D)) (l1 : Int32) (l2 : Int32) (D : mx_D) : Option (Int32 × mx_D) := (if (nI 10000) ≤ l2 then (g_M_plansUpTo_34 F F l1 (nI 0) D) else (if l2 = 0 then (rk 10000 l2 (k2 l1 (l2 + (nI 1)) (sD D 128 (l2).toNatClampNeg (vp_nar .boolean (nI 1))))) else (rk 10000 l2 (k2 l1 (l2 + (nI 1)) (sD D 128 (l2).toNatClampNeg (vp_nar .boolean (nI 0)))))))
set_option maxRecDepth 100000 in
set_option maxHeartbeats 4000000 in
theorem tb_M_plansUpTo_2 (X : ev_X) (F : Nat) (d : Nat) (hd : 7 ≤ d + 1) (E : mx_E) (k2 : Int32 → Int32 → mx_D → Option (Int32 × mx_D)) (K2 : ∀ (l1 : Int32) (l2 : Int32) (D : mx_D) (v : Int32 × mx_D), k2 l1 l2 D = some v → ev X (d + 1) 257 (2, [some (.ref 116), some (.int l1), some (.int l2)], [], D, E) (qR (some (.int v.1)) v.2 E)) (l1 : Int32) (l2 : Int32) (D : mx_D) (v : Int32 × mx_D) (h : b_M_plansUpTo_2 F k2 l1 l2 D = some v) : ev X (d + 1) 257 (2, [some (.ref 116), some (.int l1), some (.int l2)], [], D, E) (qR (some (.int v.1)) v.2 E) := by
  have hq : kq_m 257 = some kq_q257 := rfl
  unfold b_M_plansUpTo_2 at h
  refine gv_n hq 4 (S' := (8, [some (.ref 116), some (.int l1), some (.int l2)], [.int (nI 10000), .int l2], D, E)) rfl ?_
  refine gv_b hq rfl h 32 11 rfl rfl rfl (fun h => ?_) (fun h => ?_)
  · refine gv_n hq 2 (S' := (34, [some (.ref 116), some (.int l1), some (.int (nI 0))], [], D, E)) rfl ?_
    exact gv_w (t_M_plansUpTo_34 X F d hd E F _ _ _ _ h) (And.intro rfl (And.intro rfl (And.intro rfl trivial)))
  · refine gv_n hq 4 (S' := (17, [some (.ref 116), some (.int l1), some (.int l2)], [.int l2, .int l2, .ref 128], D, E)) rfl ?_
    refine gv_b hq rfl h 20 24 rfl rfl rfl (fun h => ?_) (fun h => ?_)
    · refine gv_n hq 2 (S' := (25, [some (.ref 116), some (.int l1), some (.int l2)], [.int (nI 1), .int l2, .ref 128], D, E)) rfl ?_
      refine gv_bs2 hq rfl rfl h 26 rfl (fun h => ?_)
      refine gv_n hq 2 (S' := (2, [some (.ref 116), some (.int l1), some (.int (l2 + (nI 1)))], [], (sD D 128 (l2).toNatClampNeg (vp_nar .boolean (nI 1))), E)) rfl ?_
      exact gv_w (K2 _ _ _ _ h) (And.intro rfl (And.intro rfl (And.intro rfl trivial)))
    · refine gv_n hq 1 (S' := (25, [some (.ref 116), some (.int l1), some (.int l2)], [.int (nI 0), .int l2, .ref 128], D, E)) rfl ?_
      refine gv_bs2 hq rfl rfl h 26 rfl (fun h => ?_)
      refine gv_n hq 2 (S' := (2, [some (.ref 116), some (.int l1), some (.int (l2 + (nI 1)))], [], (sD D 128 (l2).toNatClampNeg (vp_nar .boolean (nI 0))), E)) rfl ?_
      exact gv_w (K2 _ _ _ _ h) (And.intro rfl (And.intro rfl (And.intro rfl trivial)))
def g_M_plansUpTo_2 (F : Nat) : Nat → Int32 → Int32 → mx_D → Option (Int32 × mx_D) := it (fun k2 => b_M_plansUpTo_2 F k2) (fun _ _ _ => none)
set_option maxRecDepth 100000 in
set_option maxHeartbeats 4000000 in
theorem t_M_plansUpTo_2 (X : ev_X) (F : Nat) (d : Nat) (hd : 7 ≤ d + 1) (E : mx_E)  : ∀ (n : Nat) (l1 : Int32) (l2 : Int32) (D : mx_D) (v : Int32 × mx_D), g_M_plansUpTo_2 F n l1 l2 D = some v → ev X (d + 1) 257 (2, [some (.ref 116), some (.int l1), some (.int l2)], [], D, E) (qR (some (.int v.1)) v.2 E) := by
  intro n
  induction n with
  | zero => intro l1 l2 D v h; cases h
  | succ n ih => intro l1 l2 D v h; exact tb_M_plansUpTo_2 X F d hd E (g_M_plansUpTo_2 F n) ih l1 l2 D v h
def g_M_plansUpTo (F : Nat) (a1 : Int32) (D : mx_D) : Option (Int32 × mx_D) := (g_M_plansUpTo_2 F F a1 (nI 0) D)
set_option maxRecDepth 100000 in
set_option maxHeartbeats 4000000 in
theorem t_M_plansUpTo (X : ev_X) (F : Nat) (d : Nat) (hd : 7 ≤ d + 1) (E : mx_E) (a1 : Int32) (D : mx_D) (v : Int32 × mx_D) (h : g_M_plansUpTo F a1 D = some v) : ev X (d + 1) 257 (0, [some (.ref 116), some (.int a1), none], [], D, E) (qR (some (.int v.1)) v.2 E) := by
  have hq : kq_m 257 = some kq_q257 := rfl
  unfold g_M_plansUpTo at h
  refine gv_n hq 2 (S' := (2, [some (.ref 116), some (.int a1), some (.int (nI 0))], [], D, E)) rfl ?_
  exact gv_w (t_M_plansUpTo_2 X F d hd E F _ _ _ _ h) (And.intro rfl (And.intro rfl (And.intro rfl trivial)))
def g_M_ever (F : Nat) (a1 : Int32) (D : mx_D) : Option (Int32 × mx_D) := (if (g_M_isYear D a1) = 0 then (some ((-2 : Int32), D)) else (Option.bind (g_M_plansUpTo F a1 D) (fun r1 => (if r1.1 = a1 then (some ((r1.2 116 19), r1.2)) else (some ((-1 : Int32), r1.2))))))
set_option maxRecDepth 100000 in
set_option maxHeartbeats 4000000 in
theorem t_M_ever (X : ev_X) (F : Nat) (d : Nat) (hd : 8 ≤ d + 1) (E : mx_E) (a1 : Int32) (D : mx_D) (v : Int32 × mx_D) (h : g_M_ever F a1 D = some v) : ev X (d + 1) 256 (0, [some (.ref 116), some (.int a1)], [], D, E) (qR (some (.int v.1)) v.2 E) := by
  have hq : kq_m 256 = some kq_q256 := rfl
  unfold g_M_ever at h
  refine gv_n hq 2 (S' := (2, [some (.ref 116), some (.int a1)], [.int a1, .ref 116], D, E)) rfl ?_
  refine gv_d hq rfl rfl rfl rfl rfl (gv_dd (by omega) (t_M_isYear X (d - 1) (by omega) D E _ _ rfl)) (S' := (5, [some (.ref 116), some (.int a1)], [.int (g_M_isYear D a1)], D, E)) rfl ?_
  refine gv_b hq rfl h 8 11 rfl rfl rfl (fun h => ?_) (fun h => ?_)
  · refine gv_n hq 1 (S' := (10, [some (.ref 116), some (.int a1)], [.int (-2 : Int32)], D, E)) rfl ?_
    cases h
    exact ev_ret hq rfl rfl ⟨rfl, rfl, rfl⟩
  · refine gv_n hq 2 (S' := (13, [some (.ref 116), some (.int a1)], [.int a1, .ref 116], D, E)) rfl ?_
    obtain ⟨r1, h1, h⟩ := Option.bind_eq_some_iff.mp h
    refine gv_d hq rfl rfl rfl rfl rfl (gv_dd (by omega) (t_M_plansUpTo X F (d - 1) (by omega) E _ _ _ h1)) (S' := (16, [some (.ref 116), some (.int a1)], [.int r1.1], r1.2, E)) rfl ?_
    refine gv_n hq 1 (S' := (17, [some (.ref 116), some (.int a1)], [.int a1, .int r1.1], r1.2, E)) rfl ?_
    refine gv_b hq rfl h 20 27 rfl rfl rfl (fun h => ?_) (fun h => ?_)
    · refine gv_n hq 3 (S' := (28, [some (.ref 116), some (.int a1)], [.int (r1.2 116 19)], r1.2, E)) rfl ?_
      cases h
      exact ev_ret hq rfl rfl ⟨rfl, rfl, rfl⟩
    · refine gv_n hq 1 (S' := (28, [some (.ref 116), some (.int a1)], [.int (-1 : Int32)], r1.2, E)) rfl ?_
      cases h
      exact ev_ret hq rfl rfl ⟨rfl, rfl, rfl⟩
def g_X_sawn (F : Nat) (a1 : Int32) (a2 : Int32) (D : mx_D) : Option (Int32 × mx_D) := (if (g_X_canAsk D a1) = 0 then (some ((-2 : Int32), D)) else (if (g_Church_hasPew D a2) = 0 then (some ((-2 : Int32), D)) else (Option.bind (g_X_sawAsLongAsCan F (nI 0) a1 D) (fun r1 => (if a1 ≤ r1.1 then (rk 4 a2 (some ((r1.2 38 (a2).toNatClampNeg), r1.2))) else (some ((-1 : Int32), r1.2)))))))
set_option maxRecDepth 100000 in
set_option maxHeartbeats 4000000 in
theorem t_X_sawn (X : ev_X) (F : Nat) (d : Nat) (hd : 6 ≤ d + 1) (E : mx_E) (a1 : Int32) (a2 : Int32) (D : mx_D) (v : Int32 × mx_D) (h : g_X_sawn F a1 a2 D = some v) : ev X (d + 1) 135 (0, [some (.ref 0), some (.int a1), some (.int a2)], [], D, E) (qR (some (.int v.1)) v.2 E) := by
  have hq : kq_m 135 = some kq_q135 := rfl
  unfold g_X_sawn at h
  refine gv_n hq 2 (S' := (2, [some (.ref 0), some (.int a1), some (.int a2)], [.int a1, .ref 0], D, E)) rfl ?_
  refine gv_d hq rfl rfl rfl rfl rfl (gv_dd (by omega) (t_X_canAsk X (d - 1) (by omega) D E _ _ rfl)) (S' := (5, [some (.ref 0), some (.int a1), some (.int a2)], [.int (g_X_canAsk D a1)], D, E)) rfl ?_
  refine gv_b hq rfl h 19 8 rfl rfl rfl (fun h => ?_) (fun h => ?_)
  · refine gv_n hq 1 (S' := (21, [some (.ref 0), some (.int a1), some (.int a2)], [.int (-2 : Int32)], D, E)) rfl ?_
    cases h
    exact ev_ret hq rfl rfl ⟨rfl, rfl, rfl⟩
  · refine gv_n hq 3 (S' := (13, [some (.ref 0), some (.int a1), some (.int a2)], [.int a2, .ref 19], D, E)) rfl ?_
    refine gv_d hq rfl rfl rfl rfl rfl ((t_Church_hasPew X d D E _ _ rfl)) (S' := (16, [some (.ref 0), some (.int a1), some (.int a2)], [.int (g_Church_hasPew D a2)], D, E)) rfl ?_
    refine gv_b hq rfl h 19 22 rfl rfl rfl (fun h => ?_) (fun h => ?_)
    · refine gv_n hq 1 (S' := (21, [some (.ref 0), some (.int a1), some (.int a2)], [.int (-2 : Int32)], D, E)) rfl ?_
      cases h
      exact ev_ret hq rfl rfl ⟨rfl, rfl, rfl⟩
    · refine gv_n hq 3 (S' := (25, [some (.ref 0), some (.int a1), some (.int a2)], [.int a1, .int (nI 0), .ref 0], D, E)) rfl ?_
      obtain ⟨r1, h1, h⟩ := Option.bind_eq_some_iff.mp h
      refine gv_d hq rfl rfl rfl rfl rfl (gv_dd (by omega) (t_X_sawAsLongAsCan X F (d - 1) (by omega) E _ _ _ _ h1)) (S' := (28, [some (.ref 0), some (.int a1), some (.int a2)], [.int r1.1], r1.2, E)) rfl ?_
      refine gv_n hq 1 (S' := (29, [some (.ref 0), some (.int a1), some (.int a2)], [.int a1, .int r1.1], r1.2, E)) rfl ?_
      refine gv_b hq rfl h 36 32 rfl rfl rfl (fun h => ?_) (fun h => ?_)
      · refine gv_n hq 4 (S' := (44, [some (.ref 0), some (.int a1), some (.int a2)], [.int a2, .ref 38], r1.2, E)) rfl ?_
        refine gv_ia hq rfl rfl rfl h 45 rfl (fun h => ?_)
        cases h
        exact ev_ret hq rfl rfl ⟨rfl, rfl, rfl⟩
      · refine gv_n hq 2 (S' := (45, [some (.ref 0), some (.int a1), some (.int a2)], [.int (-1 : Int32)], r1.2, E)) rfl ?_
        cases h
        exact ev_ret hq rfl rfl ⟨rfl, rfl, rfl⟩
def g_M_sawn (F : Nat) (a1 : Int32) (a2 : Int32) (D : mx_D) : Option (Int32 × mx_D) := (if (g_M_isYear D a1) = 0 then (some ((-2 : Int32), D)) else (if (g_M_isPew D ((a2).toInt64)) = 0 then (some ((-2 : Int32), D)) else (Option.bind (g_M_plansUpTo F a1 D) (fun r1 => (if r1.1 = a1 then (rk 4 a2 (some ((r1.2 126 (a2).toNatClampNeg), r1.2))) else (some ((-1 : Int32), r1.2)))))))
set_option maxRecDepth 100000 in
set_option maxHeartbeats 4000000 in
theorem t_M_sawn (X : ev_X) (F : Nat) (d : Nat) (hd : 8 ≤ d + 1) (E : mx_E) (a1 : Int32) (a2 : Int32) (D : mx_D) (v : Int32 × mx_D) (h : g_M_sawn F a1 a2 D = some v) : ev X (d + 1) 262 (0, [some (.ref 116), some (.int a1), some (.int a2)], [], D, E) (qR (some (.int v.1)) v.2 E) := by
  have hq : kq_m 262 = some kq_q262 := rfl
  unfold g_M_sawn at h
  refine gv_n hq 2 (S' := (2, [some (.ref 116), some (.int a1), some (.int a2)], [.int a1, .ref 116], D, E)) rfl ?_
  refine gv_d hq rfl rfl rfl rfl rfl (gv_dd (by omega) (t_M_isYear X (d - 1) (by omega) D E _ _ rfl)) (S' := (5, [some (.ref 116), some (.int a1), some (.int a2)], [.int (g_M_isYear D a1)], D, E)) rfl ?_
  refine gv_b hq rfl h 17 8 rfl rfl rfl (fun h => ?_) (fun h => ?_)
  · refine gv_n hq 1 (S' := (19, [some (.ref 116), some (.int a1), some (.int a2)], [.int (-2 : Int32)], D, E)) rfl ?_
    cases h
    exact ev_ret hq rfl rfl ⟨rfl, rfl, rfl⟩
  · refine gv_n hq 3 (S' := (11, [some (.ref 116), some (.int a1), some (.int a2)], [.long ((a2).toInt64), .ref 116], D, E)) rfl ?_
    refine gv_d hq rfl rfl rfl rfl rfl (gv_dd (by omega) (t_M_isPew X (d - 1) (by omega) D E _ _ rfl)) (S' := (14, [some (.ref 116), some (.int a1), some (.int a2)], [.int (g_M_isPew D ((a2).toInt64))], D, E)) rfl ?_
    refine gv_b hq rfl h 17 20 rfl rfl rfl (fun h => ?_) (fun h => ?_)
    · refine gv_n hq 1 (S' := (19, [some (.ref 116), some (.int a1), some (.int a2)], [.int (-2 : Int32)], D, E)) rfl ?_
      cases h
      exact ev_ret hq rfl rfl ⟨rfl, rfl, rfl⟩
    · refine gv_n hq 2 (S' := (22, [some (.ref 116), some (.int a1), some (.int a2)], [.int a1, .ref 116], D, E)) rfl ?_
      obtain ⟨r1, h1, h⟩ := Option.bind_eq_some_iff.mp h
      refine gv_d hq rfl rfl rfl rfl rfl (gv_dd (by omega) (t_M_plansUpTo X F (d - 1) (by omega) E _ _ _ h1)) (S' := (25, [some (.ref 116), some (.int a1), some (.int a2)], [.int r1.1], r1.2, E)) rfl ?_
      refine gv_n hq 1 (S' := (26, [some (.ref 116), some (.int a1), some (.int a2)], [.int a1, .int r1.1], r1.2, E)) rfl ?_
      refine gv_b hq rfl h 29 38 rfl rfl rfl (fun h => ?_) (fun h => ?_)
      · refine gv_n hq 3 (S' := (34, [some (.ref 116), some (.int a1), some (.int a2)], [.int a2, .ref 126], r1.2, E)) rfl ?_
        refine gv_ia hq rfl rfl rfl h 35 rfl (fun h => ?_)
        refine gv_n hq 1 (S' := (39, [some (.ref 116), some (.int a1), some (.int a2)], [.int (r1.2 126 (a2).toNatClampNeg)], r1.2, E)) rfl ?_
        cases h
        exact ev_ret hq rfl rfl ⟨rfl, rfl, rfl⟩
      · refine gv_n hq 1 (S' := (39, [some (.ref 116), some (.int a1), some (.int a2)], [.int (-1 : Int32)], r1.2, E)) rfl ?_
        cases h
        exact ev_ret hq rfl rfl ⟨rfl, rfl, rfl⟩
def g_X_lasts (F : Nat) (D : mx_D) : Option (Int32 × mx_D) := (if (g_Church_isThere D) = 0 then (some ((-2 : Int32), D)) else (Option.bind (g_X_sawAsLongAsCan F (nI 0) (nI 30) D) (fun r1 => (some (r1.1, r1.2)))))
set_option maxRecDepth 100000 in
set_option maxHeartbeats 4000000 in
theorem t_X_lasts (X : ev_X) (F : Nat) (d : Nat) (hd : 6 ≤ d + 1) (E : mx_E) (D : mx_D) (v : Int32 × mx_D) (h : g_X_lasts F D = some v) : ev X (d + 1) 136 (0, [some (.ref 0)], [], D, E) (qR (some (.int v.1)) v.2 E) := by
  have hq : kq_m 136 = some kq_q136 := rfl
  unfold g_X_lasts at h
  refine gv_n hq 2 (S' := (4, [some (.ref 0)], [.ref 19], D, E)) rfl ?_
  refine gv_d hq rfl rfl rfl rfl rfl ((t_Church_isThere X d D E _ rfl)) (S' := (7, [some (.ref 0)], [.int (g_Church_isThere D)], D, E)) rfl ?_
  refine gv_b hq rfl h 10 13 rfl rfl rfl (fun h => ?_) (fun h => ?_)
  · refine gv_n hq 1 (S' := (12, [some (.ref 0)], [.int (-2 : Int32)], D, E)) rfl ?_
    cases h
    exact ev_ret hq rfl rfl ⟨rfl, rfl, rfl⟩
  · refine gv_n hq 3 (S' := (17, [some (.ref 0)], [.int (nI 30), .int (nI 0), .ref 0], D, E)) rfl ?_
    obtain ⟨r1, h1, h⟩ := Option.bind_eq_some_iff.mp h
    refine gv_d hq rfl rfl rfl rfl rfl (gv_dd (by omega) (t_X_sawAsLongAsCan X F (d - 1) (by omega) E _ _ _ _ h1)) (S' := (20, [some (.ref 0)], [.int r1.1], r1.2, E)) rfl ?_
    cases h
    exact ev_ret hq rfl rfl ⟨rfl, rfl, rfl⟩
def g_M_lasts (F : Nat) (D : mx_D) : Option (Int32 × mx_D) := (if (g_M_isChurch D) = 0 then (some ((-2 : Int32), D)) else (Option.bind (g_M_plansUpTo F (nI 30) D) (fun r1 => (some (r1.1, r1.2)))))
set_option maxRecDepth 100000 in
set_option maxHeartbeats 4000000 in
theorem t_M_lasts (X : ev_X) (F : Nat) (d : Nat) (hd : 8 ≤ d + 1) (E : mx_E) (D : mx_D) (v : Int32 × mx_D) (h : g_M_lasts F D = some v) : ev X (d + 1) 263 (0, [some (.ref 116)], [], D, E) (qR (some (.int v.1)) v.2 E) := by
  have hq : kq_m 263 = some kq_q263 := rfl
  unfold g_M_lasts at h
  refine gv_n hq 1 (S' := (1, [some (.ref 116)], [.ref 116], D, E)) rfl ?_
  refine gv_d hq rfl rfl rfl rfl rfl ((t_M_isChurch X d D E _ rfl)) (S' := (4, [some (.ref 116)], [.int (g_M_isChurch D)], D, E)) rfl ?_
  refine gv_b hq rfl h 16 7 rfl rfl rfl (fun h => ?_) (fun h => ?_)
  · refine gv_n hq 1 (S' := (18, [some (.ref 116)], [.int (-2 : Int32)], D, E)) rfl ?_
    cases h
    exact ev_ret hq rfl rfl ⟨rfl, rfl, rfl⟩
  · refine gv_n hq 2 (S' := (10, [some (.ref 116)], [.int (nI 30), .ref 116], D, E)) rfl ?_
    obtain ⟨r1, h1, h⟩ := Option.bind_eq_some_iff.mp h
    refine gv_d hq rfl rfl rfl rfl rfl (gv_dd (by omega) (t_M_plansUpTo X F (d - 1) (by omega) E _ _ _ h1)) (S' := (13, [some (.ref 116)], [.int r1.1], r1.2, E)) rfl ?_
    refine gv_n hq 1 (S' := (18, [some (.ref 116)], [.int r1.1], r1.2, E)) rfl ?_
    cases h
    exact ev_ret hq rfl rfl ⟨rfl, rfl, rfl⟩
def b_X_clashingIn_61 (F : Nat) (k61 : Int32 → Int32 → Int32 → mx_D → Option (Int32 × mx_D)) (l2 : Int32) (l3 : Int32) (l4 : Int32) (D : mx_D) : Option (Int32 × mx_D) := (if (D 34 2) < l4 then (some (l2, D)) else (if (l4 &&& ((D 34 2) ^^^ (-1 : Int32))) = 0 then (if l3 ≤ (g_Integer_bitCount l4) then (k61 l2 l3 (l4 + (nI 1)) D) else (Option.bind (g_Sawing_begin F D) (fun r4 => (Option.bind (g_Sawing_settle F l4 (r4 19 2) r4) (fun r5 => (if r5.1 = 0 then (k61 l4 (g_Integer_bitCount l4) (l4 + (nI 1)) r5.2) else (k61 l2 l3 (l4 + (nI 1)) r5.2))))))) else (k61 l2 l3 (l4 + (nI 1)) D)))
set_option maxRecDepth 100000 in
set_option maxHeartbeats 4000000 in
theorem tb_X_clashingIn_61 (X : ev_X) (F : Nat) (d : Nat) (hd : 5 ≤ d + 1) (E : mx_E) (k61 : Int32 → Int32 → Int32 → mx_D → Option (Int32 × mx_D)) (K61 : ∀ (l2 : Int32) (l3 : Int32) (l4 : Int32) (D : mx_D) (v : Int32 × mx_D), k61 l2 l3 l4 D = some v → ev X (d + 1) 138 (61, [some (.ref 0), none, some (.int l2), some (.int l3), some (.int l4), none], [], D, E) (qR (some (.int v.1)) v.2 E)) (l2 : Int32) (l3 : Int32) (l4 : Int32) (D : mx_D) (v : Int32 × mx_D) (h : b_X_clashingIn_61 F k61 l2 l3 l4 D = some v) : ev X (d + 1) 138 (61, [some (.ref 0), none, some (.int l2), some (.int l3), some (.int l4), none], [], D, E) (qR (some (.int v.1)) v.2 E) := by
  have hq : kq_m 138 = some kq_q138 := rfl
  unfold b_X_clashingIn_61 at h
  refine gv_n hq 4 (S' := (70, [some (.ref 0), none, some (.int l2), some (.int l3), some (.int l4), none], [.int (D 34 2), .int l4], D, E)) rfl ?_
  refine gv_b hq rfl h 147 73 rfl rfl rfl (fun h => ?_) (fun h => ?_)
  · refine gv_n hq 1 (S' := (148, [some (.ref 0), none, some (.int l2), some (.int l3), some (.int l4), none], [.int l2], D, E)) rfl ?_
    cases h
    exact ev_ret hq rfl rfl ⟨rfl, rfl, rfl⟩
  · refine gv_n hq 1 (S' := (75, [some (.ref 0), none, some (.int l2), some (.int l3), some (.int l4), none], [.int l4], D, E)) rfl ?_
    refine gv_d hq rfl rfl rfl rfl rfl ((t_Integer_bitCount X d D E _ _ rfl)) (S' := (78, [some (.ref 0), none, some (.int l2), some (.int l3), some (.int l4), none], [.int (g_Integer_bitCount l4)], D, E)) rfl ?_
    refine gv_n hq 8 (S' := (92, [some (.ref 0), none, some (.int l2), some (.int l3), some (.int l4), some (.int (g_Integer_bitCount l4))], [.int (l4 &&& ((D 34 2) ^^^ (-1 : Int32)))], D, E)) rfl ?_
    refine gv_b hq rfl h 95 141 rfl rfl rfl (fun h => ?_) (fun h => ?_)
    · refine gv_n hq 2 (S' := (98, [some (.ref 0), none, some (.int l2), some (.int l3), some (.int l4), some (.int (g_Integer_bitCount l4))], [.int l3, .int (g_Integer_bitCount l4)], D, E)) rfl ?_
      refine gv_b hq rfl h 141 101 rfl rfl rfl (fun h => ?_) (fun h => ?_)
      · refine gv_n hq 2 (S' := (61, [some (.ref 0), none, some (.int l2), some (.int l3), some (.int (l4 + (nI 1))), some (.int (g_Integer_bitCount l4))], [], D, E)) rfl ?_
        exact gv_w (K61 _ _ _ _ _ h) (And.intro rfl (And.intro rfl (And.intro rfl (And.intro rfl trivial))))
      · refine gv_n hq 4 (S' := (109, [some (.ref 0), none, some (.int l2), some (.int l3), some (.int l4), some (.int (g_Integer_bitCount l4))], [.ref 19, .ref 37], D, E)) rfl ?_
        obtain ⟨r4, h1, h⟩ := Option.bind_eq_some_iff.mp h
        refine gv_d hq rfl rfl rfl rfl rfl ((t_Sawing_begin X F d E _ _ h1)) (S' := (112, [some (.ref 0), none, some (.int l2), some (.int l3), some (.int l4), some (.int (g_Integer_bitCount l4))], [], r4, E)) rfl ?_
        refine gv_n hq 8 (S' := (129, [some (.ref 0), none, some (.int l2), some (.int l3), some (.int l4), some (.int (g_Integer_bitCount l4))], [.int (r4 19 2), .int l4, .ref 34, .ref 37], r4, E)) rfl ?_
        obtain ⟨r5, h1, h⟩ := Option.bind_eq_some_iff.mp h
        refine gv_d hq rfl rfl rfl rfl rfl (gv_dd (by omega) (t_Sawing_settle X F (d - 1) (by omega) E _ _ _ _ h1)) (S' := (132, [some (.ref 0), none, some (.int l2), some (.int l3), some (.int l4), some (.int (g_Integer_bitCount l4))], [.int r5.1], r5.2, E)) rfl ?_
        refine gv_b hq rfl h 135 141 rfl rfl rfl (fun h => ?_) (fun h => ?_)
        · refine gv_n hq 6 (S' := (61, [some (.ref 0), none, some (.int l4), some (.int (g_Integer_bitCount l4)), some (.int (l4 + (nI 1))), some (.int (g_Integer_bitCount l4))], [], r5.2, E)) rfl ?_
          exact gv_w (K61 _ _ _ _ _ h) (And.intro rfl (And.intro rfl (And.intro rfl (And.intro rfl trivial))))
        · refine gv_n hq 2 (S' := (61, [some (.ref 0), none, some (.int l2), some (.int l3), some (.int (l4 + (nI 1))), some (.int (g_Integer_bitCount l4))], [], r5.2, E)) rfl ?_
          exact gv_w (K61 _ _ _ _ _ h) (And.intro rfl (And.intro rfl (And.intro rfl (And.intro rfl trivial))))
    · refine gv_n hq 2 (S' := (61, [some (.ref 0), none, some (.int l2), some (.int l3), some (.int (l4 + (nI 1))), some (.int (g_Integer_bitCount l4))], [], D, E)) rfl ?_
      exact gv_w (K61 _ _ _ _ _ h) (And.intro rfl (And.intro rfl (And.intro rfl (And.intro rfl trivial))))
def g_X_clashingIn_61 (F : Nat) : Nat → Int32 → Int32 → Int32 → mx_D → Option (Int32 × mx_D) := it (fun k61 => b_X_clashingIn_61 F k61) (fun _ _ _ _ => none)
set_option maxRecDepth 100000 in
set_option maxHeartbeats 4000000 in
theorem t_X_clashingIn_61 (X : ev_X) (F : Nat) (d : Nat) (hd : 5 ≤ d + 1) (E : mx_E)  : ∀ (n : Nat) (l2 : Int32) (l3 : Int32) (l4 : Int32) (D : mx_D) (v : Int32 × mx_D), g_X_clashingIn_61 F n l2 l3 l4 D = some v → ev X (d + 1) 138 (61, [some (.ref 0), none, some (.int l2), some (.int l3), some (.int l4), none], [], D, E) (qR (some (.int v.1)) v.2 E) := by
  intro n
  induction n with
  | zero => intro l2 l3 l4 D v h; cases h
  | succ n ih => intro l2 l3 l4 D v h; exact tb_X_clashingIn_61 X F d hd E (g_X_clashingIn_61 F n) ih l2 l3 l4 D v h
def g_X_clashingIn (F : Nat) (a1 : Int32) (D : mx_D) : Option (Int32 × mx_D) := (Option.bind (g_Heights_take F a1 D) (fun r1 => (Option.bind (g_Sawing_begin F r1) (fun r2 => (Option.bind (g_Sawing_settle F (r2 34 2) (r2 19 2) r2) (fun r3 => (if r3.1 = 0 then (g_X_clashingIn_61 F F (nI 0) (nI 9) (nI 1) r3.2) else (some ((nI 0), r3.2)))))))))
set_option maxRecDepth 100000 in
set_option maxHeartbeats 4000000 in
theorem t_X_clashingIn (X : ev_X) (F : Nat) (d : Nat) (hd : 5 ≤ d + 1) (E : mx_E) (a1 : Int32) (D : mx_D) (v : Int32 × mx_D) (h : g_X_clashingIn F a1 D = some v) : ev X (d + 1) 138 (0, [some (.ref 0), some (.int a1), none, none, none, none], [], D, E) (qR (some (.int v.1)) v.2 E) := by
  have hq : kq_m 138 = some kq_q138 := rfl
  unfold g_X_clashingIn at h
  refine gv_n hq 5 (S' := (9, [some (.ref 0), some (.int a1), none, none, none, none], [.int a1, .ref 19, .ref 34], D, E)) rfl ?_
  obtain ⟨r1, h1, h⟩ := Option.bind_eq_some_iff.mp h
  refine gv_d hq rfl rfl rfl rfl rfl (gv_dd (by omega) (t_Heights_take X F (d - 1) (by omega) E _ _ _ h1)) (S' := (12, [some (.ref 0), some (.int a1), none, none, none, none], [], r1, E)) rfl ?_
  refine gv_n hq 4 (S' := (20, [some (.ref 0), some (.int a1), none, none, none, none], [.ref 19, .ref 37], r1, E)) rfl ?_
  obtain ⟨r2, h1, h⟩ := Option.bind_eq_some_iff.mp h
  refine gv_d hq rfl rfl rfl rfl rfl ((t_Sawing_begin X F d E _ _ h1)) (S' := (23, [some (.ref 0), some (.int a1), none, none, none, none], [], r2, E)) rfl ?_
  refine gv_n hq 10 (S' := (45, [some (.ref 0), some (.int a1), none, none, none, none], [.int (r2 19 2), .int (r2 34 2), .ref 34, .ref 37], r2, E)) rfl ?_
  obtain ⟨r3, h1, h⟩ := Option.bind_eq_some_iff.mp h
  refine gv_d hq rfl rfl rfl rfl rfl (gv_dd (by omega) (t_Sawing_settle X F (d - 1) (by omega) E _ _ _ _ h1)) (S' := (48, [some (.ref 0), some (.int a1), none, none, none, none], [.int r3.1], r3.2, E)) rfl ?_
  refine gv_b hq rfl h 53 51 rfl rfl rfl (fun h => ?_) (fun h => ?_)
  · refine gv_n hq 6 (S' := (61, [some (.ref 0), some (.int a1), some (.int (nI 0)), some (.int (nI 9)), some (.int (nI 1)), none], [], r3.2, E)) rfl ?_
    exact gv_w (t_X_clashingIn_61 X F d hd E F _ _ _ _ _ h) (And.intro rfl (And.intro rfl (And.intro rfl (And.intro rfl trivial))))
  · refine gv_n hq 1 (S' := (52, [some (.ref 0), some (.int a1), none, none, none, none], [.int (nI 0)], r3.2, E)) rfl ?_
    cases h
    exact ev_ret hq rfl rfl ⟨rfl, rfl, rfl⟩
def g_X_clash (F : Nat) (a1 : Int32) (D : mx_D) : Option (Int32 × mx_D) := (if (g_X_canAsk D a1) = 0 then (some ((-2 : Int32), D)) else (Option.bind (g_X_clashingIn F a1 D) (fun r1 => (if r1.1 = 0 then (some ((-1 : Int32), r1.2)) else (some ((g_Integer_bitCount r1.1), r1.2))))))
set_option maxRecDepth 100000 in
set_option maxHeartbeats 4000000 in
theorem t_X_clash (X : ev_X) (F : Nat) (d : Nat) (hd : 6 ≤ d + 1) (E : mx_E) (a1 : Int32) (D : mx_D) (v : Int32 × mx_D) (h : g_X_clash F a1 D = some v) : ev X (d + 1) 137 (0, [some (.ref 0), some (.int a1), none], [], D, E) (qR (some (.int v.1)) v.2 E) := by
  have hq : kq_m 137 = some kq_q137 := rfl
  unfold g_X_clash at h
  refine gv_n hq 2 (S' := (2, [some (.ref 0), some (.int a1), none], [.int a1, .ref 0], D, E)) rfl ?_
  refine gv_d hq rfl rfl rfl rfl rfl (gv_dd (by omega) (t_X_canAsk X (d - 1) (by omega) D E _ _ rfl)) (S' := (5, [some (.ref 0), some (.int a1), none], [.int (g_X_canAsk D a1)], D, E)) rfl ?_
  refine gv_b hq rfl h 8 11 rfl rfl rfl (fun h => ?_) (fun h => ?_)
  · refine gv_n hq 1 (S' := (10, [some (.ref 0), some (.int a1), none], [.int (-2 : Int32)], D, E)) rfl ?_
    cases h
    exact ev_ret hq rfl rfl ⟨rfl, rfl, rfl⟩
  · refine gv_n hq 2 (S' := (13, [some (.ref 0), some (.int a1), none], [.int a1, .ref 0], D, E)) rfl ?_
    obtain ⟨r1, h1, h⟩ := Option.bind_eq_some_iff.mp h
    refine gv_d hq rfl rfl rfl rfl rfl (gv_dd (by omega) (t_X_clashingIn X F (d - 1) (by omega) E _ _ _ h1)) (S' := (16, [some (.ref 0), some (.int a1), none], [.int r1.1], r1.2, E)) rfl ?_
    refine gv_n hq 2 (S' := (18, [some (.ref 0), some (.int a1), some (.int r1.1)], [.int r1.1], r1.2, E)) rfl ?_
    refine gv_b hq rfl h 21 25 rfl rfl rfl (fun h => ?_) (fun h => ?_)
    · refine gv_n hq 2 (S' := (29, [some (.ref 0), some (.int a1), some (.int r1.1)], [.int (-1 : Int32)], r1.2, E)) rfl ?_
      cases h
      exact ev_ret hq rfl rfl ⟨rfl, rfl, rfl⟩
    · refine gv_n hq 1 (S' := (26, [some (.ref 0), some (.int a1), some (.int r1.1)], [.int r1.1], r1.2, E)) rfl ?_
      refine gv_d hq rfl rfl rfl rfl rfl ((t_Integer_bitCount X d r1.2 E _ _ rfl)) (S' := (29, [some (.ref 0), some (.int a1), some (.int r1.1)], [.int (g_Integer_bitCount r1.1)], r1.2, E)) rfl ?_
      cases h
      exact ev_ret hq rfl rfl ⟨rfl, rfl, rfl⟩
def b_M_canBeLevel_4 (F : Nat) (k4 : Int32 → mx_D → Option (Int32 × mx_D)) (l1 : Int32) (D : mx_D) : Option (Int32 × mx_D) := (Option.bind (g_M_layMore F D) (fun r2 => (Option.bind (g_M_unlevel F r2 l1) (fun r3 => (if (r2 117 2) < r3 then (Option.bind (g_M_nextSawing F r2) (fun r4 => (if r4.1 = 0 then (some ((nI 0), r4.2)) else (k4 l1 r4.2)))) else (some ((nI 1), r2)))))))
set_option maxRecDepth 100000 in
set_option maxHeartbeats 4000000 in
theorem tb_M_canBeLevel_4 (X : ev_X) (F : Nat) (d : Nat) (hd : 3 ≤ d + 1) (E : mx_E) (k4 : Int32 → mx_D → Option (Int32 × mx_D)) (K4 : ∀ (l1 : Int32) (D : mx_D) (v : Int32 × mx_D), k4 l1 D = some v → ev X (d + 1) 266 (4, [some (.ref 116), some (.int l1)], [], D, E) (qR (some (.int v.1)) v.2 E)) (l1 : Int32) (D : mx_D) (v : Int32 × mx_D) (h : b_M_canBeLevel_4 F k4 l1 D = some v) : ev X (d + 1) 266 (4, [some (.ref 116), some (.int l1)], [], D, E) (qR (some (.int v.1)) v.2 E) := by
  have hq : kq_m 266 = some kq_q266 := rfl
  unfold b_M_canBeLevel_4 at h
  refine gv_n hq 1 (S' := (5, [some (.ref 116), some (.int l1)], [.ref 116], D, E)) rfl ?_
  obtain ⟨r2, h1, h⟩ := Option.bind_eq_some_iff.mp h
  refine gv_d hq rfl rfl rfl rfl rfl (gv_dd (by omega) (t_M_layMore X F (d - 1) (by omega) E _ _ h1)) (S' := (8, [some (.ref 116), some (.int l1)], [], r2, E)) rfl ?_
  refine gv_n hq 2 (S' := (10, [some (.ref 116), some (.int l1)], [.int l1, .ref 116], r2, E)) rfl ?_
  obtain ⟨r3, h1, h⟩ := Option.bind_eq_some_iff.mp h
  refine gv_d hq rfl rfl rfl rfl rfl (gv_dd (by omega) (t_M_unlevel X F (d - 1) (by omega) r2 E _ _ h1)) (S' := (13, [some (.ref 116), some (.int l1)], [.int r3], r2, E)) rfl ?_
  refine gv_n hq 4 (S' := (19, [some (.ref 116), some (.int l1)], [.int (r2 117 2), .int r3], r2, E)) rfl ?_
  refine gv_b hq rfl h 24 22 rfl rfl rfl (fun h => ?_) (fun h => ?_)
  · refine gv_n hq 1 (S' := (25, [some (.ref 116), some (.int l1)], [.ref 116], r2, E)) rfl ?_
    obtain ⟨r4, h1, h⟩ := Option.bind_eq_some_iff.mp h
    refine gv_d hq rfl rfl rfl rfl rfl (gv_dd (by omega) (t_M_nextSawing X F (d - 1) (by omega) E _ _ h1)) (S' := (28, [some (.ref 116), some (.int l1)], [.int r4.1], r4.2, E)) rfl ?_
    refine gv_b hq rfl h 31 4 rfl rfl rfl (fun h => ?_) (fun h => ?_)
    · refine gv_n hq 1 (S' := (32, [some (.ref 116), some (.int l1)], [.int (nI 0)], r4.2, E)) rfl ?_
      cases h
      exact ev_ret hq rfl rfl ⟨rfl, rfl, rfl⟩
    · exact gv_w (K4 _ _ _ h) (And.intro rfl (And.intro rfl trivial))
  · refine gv_n hq 1 (S' := (23, [some (.ref 116), some (.int l1)], [.int (nI 1)], r2, E)) rfl ?_
    cases h
    exact ev_ret hq rfl rfl ⟨rfl, rfl, rfl⟩
def g_M_canBeLevel_4 (F : Nat) : Nat → Int32 → mx_D → Option (Int32 × mx_D) := it (fun k4 => b_M_canBeLevel_4 F k4) (fun _ _ => none)
set_option maxRecDepth 100000 in
set_option maxHeartbeats 4000000 in
theorem t_M_canBeLevel_4 (X : ev_X) (F : Nat) (d : Nat) (hd : 3 ≤ d + 1) (E : mx_E)  : ∀ (n : Nat) (l1 : Int32) (D : mx_D) (v : Int32 × mx_D), g_M_canBeLevel_4 F n l1 D = some v → ev X (d + 1) 266 (4, [some (.ref 116), some (.int l1)], [], D, E) (qR (some (.int v.1)) v.2 E) := by
  intro n
  induction n with
  | zero => intro l1 D v h; cases h
  | succ n ih => intro l1 D v h; exact tb_M_canBeLevel_4 X F d hd E (g_M_canBeLevel_4 F n) ih l1 D v h
def g_M_canBeLevel (F : Nat) (a1 : Int32) (D : mx_D) : Option (Int32 × mx_D) := (Option.bind (g_M_beginsSawing F D) (fun r1 => (g_M_canBeLevel_4 F F a1 r1)))
set_option maxRecDepth 100000 in
set_option maxHeartbeats 4000000 in
theorem t_M_canBeLevel (X : ev_X) (F : Nat) (d : Nat) (hd : 3 ≤ d + 1) (E : mx_E) (a1 : Int32) (D : mx_D) (v : Int32 × mx_D) (h : g_M_canBeLevel F a1 D = some v) : ev X (d + 1) 266 (0, [some (.ref 116), some (.int a1)], [], D, E) (qR (some (.int v.1)) v.2 E) := by
  have hq : kq_m 266 = some kq_q266 := rfl
  unfold g_M_canBeLevel at h
  refine gv_n hq 1 (S' := (1, [some (.ref 116), some (.int a1)], [.ref 116], D, E)) rfl ?_
  obtain ⟨r1, h1, h⟩ := Option.bind_eq_some_iff.mp h
  refine gv_d hq rfl rfl rfl rfl rfl (gv_dd (by omega) (t_M_beginsSawing X F (d - 1) (by omega) E _ _ h1)) (S' := (4, [some (.ref 116), some (.int a1)], [], r1, E)) rfl ?_
  exact gv_w (t_M_canBeLevel_4 X F d hd E F _ _ _ h) (And.intro rfl (And.intro rfl trivial))
def b_M_clashing_25 (F : Nat) (k25 : Int32 → Int32 → Int32 → mx_D → Option (Int32 × mx_D)) (l2 : Int32) (l3 : Int32) (l4 : Int32) (D : mx_D) : Option (Int32 × mx_D) := (if l2 < l4 then (some (l3, D)) else (if (l4 &&& (l2 ^^^ (-1 : Int32))) = 0 then (Option.bind (g_M_bits F l4) (fun r4 => (Option.bind (g_M_bits F l3) (fun r5 => (if r4 < r5 then (Option.bind (g_M_canBeLevel F l4 D) (fun r6 => (if r6.1 = 0 then (k25 l2 l4 (l4 + (nI 1)) r6.2) else (k25 l2 l3 (l4 + (nI 1)) r6.2)))) else (Option.bind (g_M_bits F l4) (fun r7 => (Option.bind (g_M_bits F l3) (fun r8 => (if r7 = r8 then (if l3 ≤ l4 then (k25 l2 l3 (l4 + (nI 1)) D) else (Option.bind (g_M_canBeLevel F l4 D) (fun r9 => (if r9.1 = 0 then (k25 l2 l4 (l4 + (nI 1)) r9.2) else (k25 l2 l3 (l4 + (nI 1)) r9.2))))) else (k25 l2 l3 (l4 + (nI 1)) D))))))))))) else (k25 l2 l3 (l4 + (nI 1)) D)))
set_option maxRecDepth 100000 in
set_option maxHeartbeats 4000000 in
theorem tb_M_clashing_25 (X : ev_X) (F : Nat) (d : Nat) (hd : 6 ≤ d + 1) (E : mx_E) (k25 : Int32 → Int32 → Int32 → mx_D → Option (Int32 × mx_D)) (K25 : ∀ (l2 : Int32) (l3 : Int32) (l4 : Int32) (D : mx_D) (v : Int32 × mx_D), k25 l2 l3 l4 D = some v → ev X (d + 1) 265 (25, [some (.ref 116), none, some (.int l2), some (.int l3), some (.int l4)], [], D, E) (qR (some (.int v.1)) v.2 E)) (l2 : Int32) (l3 : Int32) (l4 : Int32) (D : mx_D) (v : Int32 × mx_D) (h : b_M_clashing_25 F k25 l2 l3 l4 D = some v) : ev X (d + 1) 265 (25, [some (.ref 116), none, some (.int l2), some (.int l3), some (.int l4)], [], D, E) (qR (some (.int v.1)) v.2 E) := by
  have hq : kq_m 265 = some kq_q265 := rfl
  unfold b_M_clashing_25 at h
  refine gv_n hq 2 (S' := (28, [some (.ref 116), none, some (.int l2), some (.int l3), some (.int l4)], [.int l2, .int l4], D, E)) rfl ?_
  refine gv_b hq rfl h 88 31 rfl rfl rfl (fun h => ?_) (fun h => ?_)
  · refine gv_n hq 1 (S' := (89, [some (.ref 116), none, some (.int l2), some (.int l3), some (.int l4)], [.int l3], D, E)) rfl ?_
    cases h
    exact ev_ret hq rfl rfl ⟨rfl, rfl, rfl⟩
  · refine gv_n hq 5 (S' := (37, [some (.ref 116), none, some (.int l2), some (.int l3), some (.int l4)], [.int (l4 &&& (l2 ^^^ (-1 : Int32)))], D, E)) rfl ?_
    refine gv_b hq rfl h 40 82 rfl rfl rfl (fun h => ?_) (fun h => ?_)
    · refine gv_n hq 1 (S' := (42, [some (.ref 116), none, some (.int l2), some (.int l3), some (.int l4)], [.int l4], D, E)) rfl ?_
      obtain ⟨r4, h1, h⟩ := Option.bind_eq_some_iff.mp h
      refine gv_d hq rfl rfl rfl rfl rfl ((t_M_bits X F d D E _ _ h1)) (S' := (45, [some (.ref 116), none, some (.int l2), some (.int l3), some (.int l4)], [.int r4], D, E)) rfl ?_
      refine gv_n hq 1 (S' := (46, [some (.ref 116), none, some (.int l2), some (.int l3), some (.int l4)], [.int l3, .int r4], D, E)) rfl ?_
      obtain ⟨r5, h1, h⟩ := Option.bind_eq_some_iff.mp h
      refine gv_d hq rfl rfl rfl rfl rfl ((t_M_bits X F d D E _ _ h1)) (S' := (49, [some (.ref 116), none, some (.int l2), some (.int l3), some (.int l4)], [.int r5, .int r4], D, E)) rfl ?_
      refine gv_b hq rfl h 70 52 rfl rfl rfl (fun h => ?_) (fun h => ?_)
      · refine gv_n hq 2 (S' := (73, [some (.ref 116), none, some (.int l2), some (.int l3), some (.int l4)], [.int l4, .ref 116], D, E)) rfl ?_
        obtain ⟨r6, h1, h⟩ := Option.bind_eq_some_iff.mp h
        refine gv_d hq rfl rfl rfl rfl rfl (gv_dd (by omega) (t_M_canBeLevel X F (d - 1) (by omega) E _ _ _ h1)) (S' := (76, [some (.ref 116), none, some (.int l2), some (.int l3), some (.int l4)], [.int r6.1], r6.2, E)) rfl ?_
        refine gv_b hq rfl h 79 82 rfl rfl rfl (fun h => ?_) (fun h => ?_)
        · refine gv_n hq 4 (S' := (25, [some (.ref 116), none, some (.int l2), some (.int l4), some (.int (l4 + (nI 1)))], [], r6.2, E)) rfl ?_
          exact gv_w (K25 _ _ _ _ _ h) (And.intro rfl (And.intro rfl (And.intro rfl (And.intro rfl trivial))))
        · refine gv_n hq 2 (S' := (25, [some (.ref 116), none, some (.int l2), some (.int l3), some (.int (l4 + (nI 1)))], [], r6.2, E)) rfl ?_
          exact gv_w (K25 _ _ _ _ _ h) (And.intro rfl (And.intro rfl (And.intro rfl (And.intro rfl trivial))))
      · refine gv_n hq 1 (S' := (54, [some (.ref 116), none, some (.int l2), some (.int l3), some (.int l4)], [.int l4], D, E)) rfl ?_
        obtain ⟨r7, h1, h⟩ := Option.bind_eq_some_iff.mp h
        refine gv_d hq rfl rfl rfl rfl rfl ((t_M_bits X F d D E _ _ h1)) (S' := (57, [some (.ref 116), none, some (.int l2), some (.int l3), some (.int l4)], [.int r7], D, E)) rfl ?_
        refine gv_n hq 1 (S' := (58, [some (.ref 116), none, some (.int l2), some (.int l3), some (.int l4)], [.int l3, .int r7], D, E)) rfl ?_
        obtain ⟨r8, h1, h⟩ := Option.bind_eq_some_iff.mp h
        refine gv_d hq rfl rfl rfl rfl rfl ((t_M_bits X F d D E _ _ h1)) (S' := (61, [some (.ref 116), none, some (.int l2), some (.int l3), some (.int l4)], [.int r8, .int r7], D, E)) rfl ?_
        refine gv_b hq rfl h 64 82 rfl rfl rfl (fun h => ?_) (fun h => ?_)
        · refine gv_n hq 2 (S' := (67, [some (.ref 116), none, some (.int l2), some (.int l3), some (.int l4)], [.int l3, .int l4], D, E)) rfl ?_
          refine gv_b hq rfl h 82 70 rfl rfl rfl (fun h => ?_) (fun h => ?_)
          · refine gv_n hq 2 (S' := (25, [some (.ref 116), none, some (.int l2), some (.int l3), some (.int (l4 + (nI 1)))], [], D, E)) rfl ?_
            exact gv_w (K25 _ _ _ _ _ h) (And.intro rfl (And.intro rfl (And.intro rfl (And.intro rfl trivial))))
          · refine gv_n hq 2 (S' := (73, [some (.ref 116), none, some (.int l2), some (.int l3), some (.int l4)], [.int l4, .ref 116], D, E)) rfl ?_
            obtain ⟨r9, h1, h⟩ := Option.bind_eq_some_iff.mp h
            refine gv_d hq rfl rfl rfl rfl rfl (gv_dd (by omega) (t_M_canBeLevel X F (d - 1) (by omega) E _ _ _ h1)) (S' := (76, [some (.ref 116), none, some (.int l2), some (.int l3), some (.int l4)], [.int r9.1], r9.2, E)) rfl ?_
            refine gv_b hq rfl h 79 82 rfl rfl rfl (fun h => ?_) (fun h => ?_)
            · refine gv_n hq 4 (S' := (25, [some (.ref 116), none, some (.int l2), some (.int l4), some (.int (l4 + (nI 1)))], [], r9.2, E)) rfl ?_
              exact gv_w (K25 _ _ _ _ _ h) (And.intro rfl (And.intro rfl (And.intro rfl (And.intro rfl trivial))))
            · refine gv_n hq 2 (S' := (25, [some (.ref 116), none, some (.int l2), some (.int l3), some (.int (l4 + (nI 1)))], [], r9.2, E)) rfl ?_
              exact gv_w (K25 _ _ _ _ _ h) (And.intro rfl (And.intro rfl (And.intro rfl (And.intro rfl trivial))))
        · refine gv_n hq 2 (S' := (25, [some (.ref 116), none, some (.int l2), some (.int l3), some (.int (l4 + (nI 1)))], [], D, E)) rfl ?_
          exact gv_w (K25 _ _ _ _ _ h) (And.intro rfl (And.intro rfl (And.intro rfl (And.intro rfl trivial))))
    · refine gv_n hq 2 (S' := (25, [some (.ref 116), none, some (.int l2), some (.int l3), some (.int (l4 + (nI 1)))], [], D, E)) rfl ?_
      exact gv_w (K25 _ _ _ _ _ h) (And.intro rfl (And.intro rfl (And.intro rfl (And.intro rfl trivial))))
def g_M_clashing_25 (F : Nat) : Nat → Int32 → Int32 → Int32 → mx_D → Option (Int32 × mx_D) := it (fun k25 => b_M_clashing_25 F k25) (fun _ _ _ _ => none)
set_option maxRecDepth 100000 in
set_option maxHeartbeats 4000000 in
theorem t_M_clashing_25 (X : ev_X) (F : Nat) (d : Nat) (hd : 6 ≤ d + 1) (E : mx_E)  : ∀ (n : Nat) (l2 : Int32) (l3 : Int32) (l4 : Int32) (D : mx_D) (v : Int32 × mx_D), g_M_clashing_25 F n l2 l3 l4 D = some v → ev X (d + 1) 265 (25, [some (.ref 116), none, some (.int l2), some (.int l3), some (.int l4)], [], D, E) (qR (some (.int v.1)) v.2 E) := by
  intro n
  induction n with
  | zero => intro l2 l3 l4 D v h; cases h
  | succ n ih => intro l2 l3 l4 D v h; exact tb_M_clashing_25 X F d hd E (g_M_clashing_25 F n) ih l2 l3 l4 D v h
def g_M_clashing (F : Nat) (a1 : Int32) (D : mx_D) : Option (Int32 × mx_D) := (Option.bind (g_M_sitters F D) (fun r1 => (Option.bind (g_M_keepUnsawn F a1 D) (fun r2 => (Option.bind (g_M_canBeLevel F r1 r2) (fun r3 => (if r3.1 = 0 then (g_M_clashing_25 F F r1 r1 (nI 0) r3.2) else (some ((-1 : Int32), r3.2)))))))))
set_option maxRecDepth 100000 in
set_option maxHeartbeats 4000000 in
theorem t_M_clashing (X : ev_X) (F : Nat) (d : Nat) (hd : 6 ≤ d + 1) (E : mx_E) (a1 : Int32) (D : mx_D) (v : Int32 × mx_D) (h : g_M_clashing F a1 D = some v) : ev X (d + 1) 265 (0, [some (.ref 116), some (.int a1), none, none, none], [], D, E) (qR (some (.int v.1)) v.2 E) := by
  have hq : kq_m 265 = some kq_q265 := rfl
  unfold g_M_clashing at h
  refine gv_n hq 1 (S' := (1, [some (.ref 116), some (.int a1), none, none, none], [.ref 116], D, E)) rfl ?_
  obtain ⟨r1, h1, h⟩ := Option.bind_eq_some_iff.mp h
  refine gv_d hq rfl rfl rfl rfl rfl (gv_dd (by omega) (t_M_sitters X F (d - 1) (by omega) D E _ h1)) (S' := (4, [some (.ref 116), some (.int a1), none, none, none], [.int r1], D, E)) rfl ?_
  refine gv_n hq 3 (S' := (7, [some (.ref 116), some (.int a1), some (.int r1), none, none], [.int a1, .ref 116], D, E)) rfl ?_
  obtain ⟨r2, h1, h⟩ := Option.bind_eq_some_iff.mp h
  refine gv_d hq rfl rfl rfl rfl rfl (gv_dd (by omega) (t_M_keepUnsawn X F (d - 1) (by omega) E _ _ _ h1)) (S' := (10, [some (.ref 116), some (.int a1), some (.int r1), none, none], [], r2, E)) rfl ?_
  refine gv_n hq 2 (S' := (12, [some (.ref 116), some (.int a1), some (.int r1), none, none], [.int r1, .ref 116], r2, E)) rfl ?_
  obtain ⟨r3, h1, h⟩ := Option.bind_eq_some_iff.mp h
  refine gv_d hq rfl rfl rfl rfl rfl (gv_dd (by omega) (t_M_canBeLevel X F (d - 1) (by omega) E _ _ _ h1)) (S' := (15, [some (.ref 116), some (.int a1), some (.int r1), none, none], [.int r3.1], r3.2, E)) rfl ?_
  refine gv_b hq rfl h 20 18 rfl rfl rfl (fun h => ?_) (fun h => ?_)
  · refine gv_n hq 4 (S' := (25, [some (.ref 116), some (.int a1), some (.int r1), some (.int r1), some (.int (nI 0))], [], r3.2, E)) rfl ?_
    exact gv_w (t_M_clashing_25 X F d hd E F _ _ _ _ _ h) (And.intro rfl (And.intro rfl (And.intro rfl (And.intro rfl trivial))))
  · refine gv_n hq 1 (S' := (19, [some (.ref 116), some (.int a1), some (.int r1), none, none], [.int (-1 : Int32)], r3.2, E)) rfl ?_
    cases h
    exact ev_ret hq rfl rfl ⟨rfl, rfl, rfl⟩
def g_M_clash (F : Nat) (a1 : Int32) (D : mx_D) : Option (Int32 × mx_D) := (if (g_M_isYear D a1) = 0 then (some ((-2 : Int32), D)) else (Option.bind (g_M_clashing F a1 D) (fun r1 => (if r1.1 = (-1 : Int32) then (some ((-1 : Int32), r1.2)) else (Option.bind (g_M_bits F r1.1) (fun r2 => (some (r2, r1.2))))))))
set_option maxRecDepth 100000 in
set_option maxHeartbeats 4000000 in
theorem t_M_clash (X : ev_X) (F : Nat) (d : Nat) (hd : 7 ≤ d + 1) (E : mx_E) (a1 : Int32) (D : mx_D) (v : Int32 × mx_D) (h : g_M_clash F a1 D = some v) : ev X (d + 1) 264 (0, [some (.ref 116), some (.int a1), none], [], D, E) (qR (some (.int v.1)) v.2 E) := by
  have hq : kq_m 264 = some kq_q264 := rfl
  unfold g_M_clash at h
  refine gv_n hq 2 (S' := (2, [some (.ref 116), some (.int a1), none], [.int a1, .ref 116], D, E)) rfl ?_
  refine gv_d hq rfl rfl rfl rfl rfl (gv_dd (by omega) (t_M_isYear X (d - 1) (by omega) D E _ _ rfl)) (S' := (5, [some (.ref 116), some (.int a1), none], [.int (g_M_isYear D a1)], D, E)) rfl ?_
  refine gv_b hq rfl h 8 11 rfl rfl rfl (fun h => ?_) (fun h => ?_)
  · refine gv_n hq 1 (S' := (10, [some (.ref 116), some (.int a1), none], [.int (-2 : Int32)], D, E)) rfl ?_
    cases h
    exact ev_ret hq rfl rfl ⟨rfl, rfl, rfl⟩
  · refine gv_n hq 2 (S' := (13, [some (.ref 116), some (.int a1), none], [.int a1, .ref 116], D, E)) rfl ?_
    obtain ⟨r1, h1, h⟩ := Option.bind_eq_some_iff.mp h
    refine gv_d hq rfl rfl rfl rfl rfl (gv_dd (by omega) (t_M_clashing X F (d - 1) (by omega) E _ _ _ h1)) (S' := (16, [some (.ref 116), some (.int a1), none], [.int r1.1], r1.2, E)) rfl ?_
    refine gv_n hq 3 (S' := (19, [some (.ref 116), some (.int a1), some (.int r1.1)], [.int (-1 : Int32), .int r1.1], r1.2, E)) rfl ?_
    refine gv_b hq rfl h 22 26 rfl rfl rfl (fun h => ?_) (fun h => ?_)
    · refine gv_n hq 2 (S' := (30, [some (.ref 116), some (.int a1), some (.int r1.1)], [.int (-1 : Int32)], r1.2, E)) rfl ?_
      cases h
      exact ev_ret hq rfl rfl ⟨rfl, rfl, rfl⟩
    · refine gv_n hq 1 (S' := (27, [some (.ref 116), some (.int a1), some (.int r1.1)], [.int r1.1], r1.2, E)) rfl ?_
      obtain ⟨r2, h1, h⟩ := Option.bind_eq_some_iff.mp h
      refine gv_d hq rfl rfl rfl rfl rfl ((t_M_bits X F d r1.2 E _ _ h1)) (S' := (30, [some (.ref 116), some (.int a1), some (.int r1.1)], [.int r2], r1.2, E)) rfl ?_
      cases h
      exact ev_ret hq rfl rfl ⟨rfl, rfl, rfl⟩
def g_X_shuts (F : Nat) (a1 : Int32) (D : mx_D) : Option (Int32 × mx_D) := (if (g_X_canAsk D a1) = 0 then (some ((-2 : Int32), D)) else (Option.bind (g_X_clashingIn F a1 D) (fun r1 => (if r1.1 = 0 then (some ((-1 : Int32), r1.2)) else (some (r1.1, r1.2))))))
set_option maxRecDepth 100000 in
set_option maxHeartbeats 4000000 in
theorem t_X_shuts (X : ev_X) (F : Nat) (d : Nat) (hd : 6 ≤ d + 1) (E : mx_E) (a1 : Int32) (D : mx_D) (v : Int32 × mx_D) (h : g_X_shuts F a1 D = some v) : ev X (d + 1) 139 (0, [some (.ref 0), some (.int a1), none], [], D, E) (qR (some (.int v.1)) v.2 E) := by
  have hq : kq_m 139 = some kq_q139 := rfl
  unfold g_X_shuts at h
  refine gv_n hq 2 (S' := (2, [some (.ref 0), some (.int a1), none], [.int a1, .ref 0], D, E)) rfl ?_
  refine gv_d hq rfl rfl rfl rfl rfl (gv_dd (by omega) (t_X_canAsk X (d - 1) (by omega) D E _ _ rfl)) (S' := (5, [some (.ref 0), some (.int a1), none], [.int (g_X_canAsk D a1)], D, E)) rfl ?_
  refine gv_b hq rfl h 8 11 rfl rfl rfl (fun h => ?_) (fun h => ?_)
  · refine gv_n hq 1 (S' := (10, [some (.ref 0), some (.int a1), none], [.int (-2 : Int32)], D, E)) rfl ?_
    cases h
    exact ev_ret hq rfl rfl ⟨rfl, rfl, rfl⟩
  · refine gv_n hq 2 (S' := (13, [some (.ref 0), some (.int a1), none], [.int a1, .ref 0], D, E)) rfl ?_
    obtain ⟨r1, h1, h⟩ := Option.bind_eq_some_iff.mp h
    refine gv_d hq rfl rfl rfl rfl rfl (gv_dd (by omega) (t_X_clashingIn X F (d - 1) (by omega) E _ _ _ h1)) (S' := (16, [some (.ref 0), some (.int a1), none], [.int r1.1], r1.2, E)) rfl ?_
    refine gv_n hq 2 (S' := (18, [some (.ref 0), some (.int a1), some (.int r1.1)], [.int r1.1], r1.2, E)) rfl ?_
    refine gv_b hq rfl h 21 25 rfl rfl rfl (fun h => ?_) (fun h => ?_)
    · refine gv_n hq 2 (S' := (26, [some (.ref 0), some (.int a1), some (.int r1.1)], [.int (-1 : Int32)], r1.2, E)) rfl ?_
      cases h
      exact ev_ret hq rfl rfl ⟨rfl, rfl, rfl⟩
    · refine gv_n hq 1 (S' := (26, [some (.ref 0), some (.int a1), some (.int r1.1)], [.int r1.1], r1.2, E)) rfl ?_
      cases h
      exact ev_ret hq rfl rfl ⟨rfl, rfl, rfl⟩
def g_M_shuts (F : Nat) (a1 : Int32) (D : mx_D) : Option (Int32 × mx_D) := (if (g_M_isYear D a1) = 0 then (some ((-2 : Int32), D)) else (Option.bind (g_M_clashing F a1 D) (fun r1 => (some (r1.1, r1.2)))))
set_option maxRecDepth 100000 in
set_option maxHeartbeats 4000000 in
theorem t_M_shuts (X : ev_X) (F : Nat) (d : Nat) (hd : 7 ≤ d + 1) (E : mx_E) (a1 : Int32) (D : mx_D) (v : Int32 × mx_D) (h : g_M_shuts F a1 D = some v) : ev X (d + 1) 267 (0, [some (.ref 116), some (.int a1)], [], D, E) (qR (some (.int v.1)) v.2 E) := by
  have hq : kq_m 267 = some kq_q267 := rfl
  unfold g_M_shuts at h
  refine gv_n hq 2 (S' := (2, [some (.ref 116), some (.int a1)], [.int a1, .ref 116], D, E)) rfl ?_
  refine gv_d hq rfl rfl rfl rfl rfl (gv_dd (by omega) (t_M_isYear X (d - 1) (by omega) D E _ _ rfl)) (S' := (5, [some (.ref 116), some (.int a1)], [.int (g_M_isYear D a1)], D, E)) rfl ?_
  refine gv_b hq rfl h 16 8 rfl rfl rfl (fun h => ?_) (fun h => ?_)
  · refine gv_n hq 1 (S' := (18, [some (.ref 116), some (.int a1)], [.int (-2 : Int32)], D, E)) rfl ?_
    cases h
    exact ev_ret hq rfl rfl ⟨rfl, rfl, rfl⟩
  · refine gv_n hq 2 (S' := (10, [some (.ref 116), some (.int a1)], [.int a1, .ref 116], D, E)) rfl ?_
    obtain ⟨r1, h1, h⟩ := Option.bind_eq_some_iff.mp h
    refine gv_d hq rfl rfl rfl rfl rfl (gv_dd (by omega) (t_M_clashing X F (d - 1) (by omega) E _ _ _ h1)) (S' := (13, [some (.ref 116), some (.int a1)], [.int r1.1], r1.2, E)) rfl ?_
    refine gv_n hq 1 (S' := (18, [some (.ref 116), some (.int a1)], [.int r1.1], r1.2, E)) rfl ?_
    cases h
    exact ev_ret hq rfl rfl ⟨rfl, rfl, rfl⟩
def g_X_cut (a1 : Int32) (a2 : Int32) (D : mx_D) : Option (Int32 × mx_D) := (if (g_Church_hasPew D a1) = 0 then (some ((-2 : Int32), D)) else (if a2 < 0 then (some ((-2 : Int32), D)) else (rk 4 a1 (rk 4 a1 (if a2 ≤ ((D 21 (a1).toNatClampNeg) - (D 22 (a1).toNatClampNeg)) then (rk 4 a1 (rk 4 a1 (rk 4 a1 (some (((sD D 22 (a1).toNatClampNeg ((D 22 (a1).toNatClampNeg) + a2)) 22 (a1).toNatClampNeg), (sD D 22 (a1).toNatClampNeg ((D 22 (a1).toNatClampNeg) + a2))))))) else (some ((-2 : Int32), D)))))))
set_option maxRecDepth 100000 in
set_option maxHeartbeats 4000000 in
theorem t_X_cut (X : ev_X) (d : Nat) (hd : 1 ≤ d + 1) (E : mx_E) (a1 : Int32) (a2 : Int32) (D : mx_D) (v : Int32 × mx_D) (h : g_X_cut a1 a2 D = some v) : ev X (d + 1) 140 (0, [some (.ref 0), some (.int a1), some (.int a2)], [], D, E) (qR (some (.int v.1)) v.2 E) := by
  have hq : kq_m 140 = some kq_q140 := rfl
  unfold g_X_cut at h
  refine gv_n hq 3 (S' := (5, [some (.ref 0), some (.int a1), some (.int a2)], [.int a1, .ref 19], D, E)) rfl ?_
  refine gv_d hq rfl rfl rfl rfl rfl ((t_Church_hasPew X d D E _ _ rfl)) (S' := (8, [some (.ref 0), some (.int a1), some (.int a2)], [.int (g_Church_hasPew D a1)], D, E)) rfl ?_
  refine gv_b hq rfl h 38 11 rfl rfl rfl (fun h => ?_) (fun h => ?_)
  · refine gv_n hq 1 (S' := (40, [some (.ref 0), some (.int a1), some (.int a2)], [.int (-2 : Int32)], D, E)) rfl ?_
    cases h
    exact ev_ret hq rfl rfl ⟨rfl, rfl, rfl⟩
  · refine gv_n hq 1 (S' := (12, [some (.ref 0), some (.int a1), some (.int a2)], [.int a2], D, E)) rfl ?_
    refine gv_b hq rfl h 38 15 rfl rfl rfl (fun h => ?_) (fun h => ?_)
    · refine gv_n hq 1 (S' := (40, [some (.ref 0), some (.int a1), some (.int a2)], [.int (-2 : Int32)], D, E)) rfl ?_
      cases h
      exact ev_ret hq rfl rfl ⟨rfl, rfl, rfl⟩
    · refine gv_n hq 5 (S' := (24, [some (.ref 0), some (.int a1), some (.int a2)], [.int a1, .ref 21, .int a2], D, E)) rfl ?_
      refine gv_ia hq rfl rfl rfl h 25 rfl (fun h => ?_)
      refine gv_n hq 4 (S' := (33, [some (.ref 0), some (.int a1), some (.int a2)], [.int a1, .ref 22, .int (D 21 (a1).toNatClampNeg), .int a2], D, E)) rfl ?_
      refine gv_ia hq rfl rfl rfl h 34 rfl (fun h => ?_)
      refine gv_n hq 1 (S' := (35, [some (.ref 0), some (.int a1), some (.int a2)], [.int ((D 21 (a1).toNatClampNeg) - (D 22 (a1).toNatClampNeg)), .int a2], D, E)) rfl ?_
      refine gv_b hq rfl h 41 38 rfl rfl rfl (fun h => ?_) (fun h => ?_)
      · refine gv_n hq 5 (S' := (50, [some (.ref 0), some (.int a1), some (.int a2)], [.int a1, .ref 22, .int a1, .ref 22], D, E)) rfl ?_
        refine gv_ia hq rfl rfl rfl h 51 rfl (fun h => ?_)
        refine gv_n hq 2 (S' := (53, [some (.ref 0), some (.int a1), some (.int a2)], [.int ((D 22 (a1).toNatClampNeg) + a2), .int a1, .ref 22], D, E)) rfl ?_
        refine gv_is hq rfl rfl h 54 rfl (fun h => ?_)
        refine gv_n hq 4 (S' := (62, [some (.ref 0), some (.int a1), some (.int a2)], [.int a1, .ref 22], (sD D 22 (a1).toNatClampNeg ((D 22 (a1).toNatClampNeg) + a2)), E)) rfl ?_
        refine gv_ia hq rfl rfl rfl h 63 rfl (fun h => ?_)
        cases h
        exact ev_ret hq rfl rfl ⟨rfl, rfl, rfl⟩
      · refine gv_n hq 1 (S' := (40, [some (.ref 0), some (.int a1), some (.int a2)], [.int (-2 : Int32)], D, E)) rfl ?_
        cases h
        exact ev_ret hq rfl rfl ⟨rfl, rfl, rfl⟩
def g_M_cut (a1 : Int32) (a2 : Int32) (D : mx_D) : Option (Int32 × mx_D) := (if (g_M_isPew D ((a1).toInt64)) = 0 then (some ((-2 : Int32), D)) else (if a2 < 0 then (some ((-2 : Int32), D)) else (Option.bind (g_M_ofPew D a1 (nI 2)) (fun r1 => (Option.bind (g_M_ofPew D a1 (nI 1)) (fun r2 => (if (lg_cmp (((r1).toInt64) + ((a2).toInt64)) ((r2).toInt64)) ≤ 0 then (rk 106 (((nI 8) + ((nI 3) * a1)) + (nI 2)) (rk 106 (((nI 8) + ((nI 3) * a1)) + (nI 2)) (Option.bind (g_M_ofPew (sD D 117 ((((nI 8) + ((nI 3) * a1)) + (nI 2))).toNatClampNeg ((D 117 ((((nI 8) + ((nI 3) * a1)) + (nI 2))).toNatClampNeg) + a2)) a1 (nI 2)) (fun r3 => (some (r3, (sD D 117 ((((nI 8) + ((nI 3) * a1)) + (nI 2))).toNatClampNeg ((D 117 ((((nI 8) + ((nI 3) * a1)) + (nI 2))).toNatClampNeg) + a2)))))))) else (some ((-2 : Int32), D)))))))))
set_option maxRecDepth 100000 in
set_option maxHeartbeats 4000000 in
theorem t_M_cut (X : ev_X) (d : Nat) (hd : 2 ≤ d + 1) (E : mx_E) (a1 : Int32) (a2 : Int32) (D : mx_D) (v : Int32 × mx_D) (h : g_M_cut a1 a2 D = some v) : ev X (d + 1) 268 (0, [some (.ref 116), some (.int a1), some (.int a2)], [], D, E) (qR (some (.int v.1)) v.2 E) := by
  have hq : kq_m 268 = some kq_q268 := rfl
  unfold g_M_cut at h
  refine gv_n hq 3 (S' := (3, [some (.ref 116), some (.int a1), some (.int a2)], [.long ((a1).toInt64), .ref 116], D, E)) rfl ?_
  refine gv_d hq rfl rfl rfl rfl rfl (gv_dd (by omega) (t_M_isPew X (d - 1) (by omega) D E _ _ rfl)) (S' := (6, [some (.ref 116), some (.int a1), some (.int a2)], [.int (g_M_isPew D ((a1).toInt64))], D, E)) rfl ?_
  refine gv_b hq rfl h 34 9 rfl rfl rfl (fun h => ?_) (fun h => ?_)
  · refine gv_n hq 1 (S' := (36, [some (.ref 116), some (.int a1), some (.int a2)], [.int (-2 : Int32)], D, E)) rfl ?_
    cases h
    exact ev_ret hq rfl rfl ⟨rfl, rfl, rfl⟩
  · refine gv_n hq 1 (S' := (10, [some (.ref 116), some (.int a1), some (.int a2)], [.int a2], D, E)) rfl ?_
    refine gv_b hq rfl h 34 13 rfl rfl rfl (fun h => ?_) (fun h => ?_)
    · refine gv_n hq 1 (S' := (36, [some (.ref 116), some (.int a1), some (.int a2)], [.int (-2 : Int32)], D, E)) rfl ?_
      cases h
      exact ev_ret hq rfl rfl ⟨rfl, rfl, rfl⟩
    · refine gv_n hq 3 (S' := (16, [some (.ref 116), some (.int a1), some (.int a2)], [.int (nI 2), .int a1, .ref 116], D, E)) rfl ?_
      obtain ⟨r1, h1, h⟩ := Option.bind_eq_some_iff.mp h
      refine gv_d hq rfl rfl rfl rfl rfl ((t_M_ofPew X d D E _ _ _ h1)) (S' := (19, [some (.ref 116), some (.int a1), some (.int a2)], [.int r1], D, E)) rfl ?_
      refine gv_n hq 7 (S' := (26, [some (.ref 116), some (.int a1), some (.int a2)], [.int (nI 1), .int a1, .ref 116, .long (((r1).toInt64) + ((a2).toInt64))], D, E)) rfl ?_
      obtain ⟨r2, h1, h⟩ := Option.bind_eq_some_iff.mp h
      refine gv_d hq rfl rfl rfl rfl rfl ((t_M_ofPew X d D E _ _ _ h1)) (S' := (29, [some (.ref 116), some (.int a1), some (.int a2)], [.int r2, .long (((r1).toInt64) + ((a2).toInt64))], D, E)) rfl ?_
      refine gv_n hq 2 (S' := (31, [some (.ref 116), some (.int a1), some (.int a2)], [.int (lg_cmp (((r1).toInt64) + ((a2).toInt64)) ((r2).toInt64))], D, E)) rfl ?_
      refine gv_b hq rfl h 37 34 rfl rfl rfl (fun h => ?_) (fun h => ?_)
      · refine gv_n hq 10 (S' := (50, [some (.ref 116), some (.int a1), some (.int a2)], [.int (((nI 8) + ((nI 3) * a1)) + (nI 2)), .ref 117, .int (((nI 8) + ((nI 3) * a1)) + (nI 2)), .ref 117], D, E)) rfl ?_
        refine gv_ia hq rfl rfl rfl h 51 rfl (fun h => ?_)
        refine gv_n hq 2 (S' := (53, [some (.ref 116), some (.int a1), some (.int a2)], [.int ((D 117 ((((nI 8) + ((nI 3) * a1)) + (nI 2))).toNatClampNeg) + a2), .int (((nI 8) + ((nI 3) * a1)) + (nI 2)), .ref 117], D, E)) rfl ?_
        refine gv_is hq rfl rfl h 54 rfl (fun h => ?_)
        refine gv_n hq 3 (S' := (57, [some (.ref 116), some (.int a1), some (.int a2)], [.int (nI 2), .int a1, .ref 116], (sD D 117 ((((nI 8) + ((nI 3) * a1)) + (nI 2))).toNatClampNeg ((D 117 ((((nI 8) + ((nI 3) * a1)) + (nI 2))).toNatClampNeg) + a2)), E)) rfl ?_
        obtain ⟨r3, h1, h⟩ := Option.bind_eq_some_iff.mp h
        refine gv_d hq rfl rfl rfl rfl rfl ((t_M_ofPew X d (sD D 117 ((((nI 8) + ((nI 3) * a1)) + (nI 2))).toNatClampNeg ((D 117 ((((nI 8) + ((nI 3) * a1)) + (nI 2))).toNatClampNeg) + a2)) E _ _ _ h1)) (S' := (60, [some (.ref 116), some (.int a1), some (.int a2)], [.int r3], (sD D 117 ((((nI 8) + ((nI 3) * a1)) + (nI 2))).toNatClampNeg ((D 117 ((((nI 8) + ((nI 3) * a1)) + (nI 2))).toNatClampNeg) + a2)), E)) rfl ?_
        cases h
        exact ev_ret hq rfl rfl ⟨rfl, rfl, rfl⟩
      · refine gv_n hq 1 (S' := (36, [some (.ref 116), some (.int a1), some (.int a2)], [.int (-2 : Int32)], D, E)) rfl ?_
        cases h
        exact ev_ret hq rfl rfl ⟨rfl, rfl, rfl⟩
def b_Arrays_fill_49_5 (F : Nat) (k5 : Int32 → Int32 → Int32 → mx_D → Option (mx_D)) (l1 : Int32) (l2 : Int32) (l3 : Int32) (D : mx_D) : Option (mx_D) := (if l3 ≤ l2 then (some D) else (rk 4 l2 (k5 l1 (l2 + (nI 1)) l3 (sD D 49 (l2).toNatClampNeg l1))))
set_option maxRecDepth 100000 in
set_option maxHeartbeats 4000000 in
theorem tb_Arrays_fill_49_5 (X : ev_X) (F : Nat) (d : Nat) (E : mx_E) (k5 : Int32 → Int32 → Int32 → mx_D → Option (mx_D)) (K5 : ∀ (l1 : Int32) (l2 : Int32) (l3 : Int32) (D : mx_D) (v : mx_D), k5 l1 l2 l3 D = some v → ev X d 333 (5, [some (.ref 49), some (.int l1), some (.int l2), some (.int l3)], [], D, E) (qR none v E)) (l1 : Int32) (l2 : Int32) (l3 : Int32) (D : mx_D) (v : mx_D) (h : b_Arrays_fill_49_5 F k5 l1 l2 l3 D = some v) : ev X d 333 (5, [some (.ref 49), some (.int l1), some (.int l2), some (.int l3)], [], D, E) (qR none v E) := by
  have hq : kq_m 333 = some kq_q333 := rfl
  unfold b_Arrays_fill_49_5 at h
  refine gv_n hq 2 (S' := (7, [some (.ref 49), some (.int l1), some (.int l2), some (.int l3)], [.int l3, .int l2], D, E)) rfl ?_
  refine gv_b hq rfl h 20 10 rfl rfl rfl (fun h => ?_) (fun h => ?_)
  · cases h
    exact ev_ret hq rfl rfl ⟨rfl, rfl, rfl⟩
  · refine gv_n hq 3 (S' := (13, [some (.ref 49), some (.int l1), some (.int l2), some (.int l3)], [.int l1, .int l2, .ref 49], D, E)) rfl ?_
    refine gv_is hq rfl rfl h 14 rfl (fun h => ?_)
    refine gv_n hq 2 (S' := (5, [some (.ref 49), some (.int l1), some (.int (l2 + (nI 1))), some (.int l3)], [], (sD D 49 (l2).toNatClampNeg l1), E)) rfl ?_
    exact gv_w (K5 _ _ _ _ _ h) (And.intro rfl (And.intro rfl (And.intro rfl (And.intro rfl trivial))))
def g_Arrays_fill_49_5 (F : Nat) : Nat → Int32 → Int32 → Int32 → mx_D → Option (mx_D) := it (fun k5 => b_Arrays_fill_49_5 F k5) (fun _ _ _ _ => none)
set_option maxRecDepth 100000 in
set_option maxHeartbeats 4000000 in
theorem t_Arrays_fill_49_5 (X : ev_X) (F : Nat) (d : Nat) (E : mx_E)  : ∀ (n : Nat) (l1 : Int32) (l2 : Int32) (l3 : Int32) (D : mx_D) (v : mx_D), g_Arrays_fill_49_5 F n l1 l2 l3 D = some v → ev X d 333 (5, [some (.ref 49), some (.int l1), some (.int l2), some (.int l3)], [], D, E) (qR none v E) := by
  intro n
  induction n with
  | zero => intro l1 l2 l3 D v h; cases h
  | succ n ih => intro l1 l2 l3 D v h; exact tb_Arrays_fill_49_5 X F d E (g_Arrays_fill_49_5 F n) ih l1 l2 l3 D v h
def g_Arrays_fill_49 (F : Nat) (a1 : Int32) (D : mx_D) : Option (mx_D) := (g_Arrays_fill_49_5 F F a1 (nI 0) (nI 4) D)
set_option maxRecDepth 100000 in
set_option maxHeartbeats 4000000 in
theorem t_Arrays_fill_49 (X : ev_X) (F : Nat) (d : Nat) (E : mx_E) (a1 : Int32) (D : mx_D) (v : mx_D) (h : g_Arrays_fill_49 F a1 D = some v) : ev X d 333 (0, [some (.ref 49), some (.int a1), none, none], [], D, E) (qR none v E) := by
  have hq : kq_m 333 = some kq_q333 := rfl
  unfold g_Arrays_fill_49 at h
  refine gv_n hq 5 (S' := (5, [some (.ref 49), some (.int a1), some (.int (nI 0)), some (.int (nI 4))], [], D, E)) rfl ?_
  exact gv_w (t_Arrays_fill_49_5 X F d E F _ _ _ _ _ h) (And.intro rfl (And.intro rfl (And.intro rfl (And.intro rfl trivial))))
def b_Arrays_fill_50_5 (F : Nat) (k5 : Int32 → Int32 → Int32 → mx_D → Option (mx_D)) (l1 : Int32) (l2 : Int32) (l3 : Int32) (D : mx_D) : Option (mx_D) := (if l3 ≤ l2 then (some D) else (rk 4 l2 (k5 l1 (l2 + (nI 1)) l3 (sD D 50 (l2).toNatClampNeg l1))))
set_option maxRecDepth 100000 in
set_option maxHeartbeats 4000000 in
theorem tb_Arrays_fill_50_5 (X : ev_X) (F : Nat) (d : Nat) (E : mx_E) (k5 : Int32 → Int32 → Int32 → mx_D → Option (mx_D)) (K5 : ∀ (l1 : Int32) (l2 : Int32) (l3 : Int32) (D : mx_D) (v : mx_D), k5 l1 l2 l3 D = some v → ev X d 333 (5, [some (.ref 50), some (.int l1), some (.int l2), some (.int l3)], [], D, E) (qR none v E)) (l1 : Int32) (l2 : Int32) (l3 : Int32) (D : mx_D) (v : mx_D) (h : b_Arrays_fill_50_5 F k5 l1 l2 l3 D = some v) : ev X d 333 (5, [some (.ref 50), some (.int l1), some (.int l2), some (.int l3)], [], D, E) (qR none v E) := by
  have hq : kq_m 333 = some kq_q333 := rfl
  unfold b_Arrays_fill_50_5 at h
  refine gv_n hq 2 (S' := (7, [some (.ref 50), some (.int l1), some (.int l2), some (.int l3)], [.int l3, .int l2], D, E)) rfl ?_
  refine gv_b hq rfl h 20 10 rfl rfl rfl (fun h => ?_) (fun h => ?_)
  · cases h
    exact ev_ret hq rfl rfl ⟨rfl, rfl, rfl⟩
  · refine gv_n hq 3 (S' := (13, [some (.ref 50), some (.int l1), some (.int l2), some (.int l3)], [.int l1, .int l2, .ref 50], D, E)) rfl ?_
    refine gv_is hq rfl rfl h 14 rfl (fun h => ?_)
    refine gv_n hq 2 (S' := (5, [some (.ref 50), some (.int l1), some (.int (l2 + (nI 1))), some (.int l3)], [], (sD D 50 (l2).toNatClampNeg l1), E)) rfl ?_
    exact gv_w (K5 _ _ _ _ _ h) (And.intro rfl (And.intro rfl (And.intro rfl (And.intro rfl trivial))))
def g_Arrays_fill_50_5 (F : Nat) : Nat → Int32 → Int32 → Int32 → mx_D → Option (mx_D) := it (fun k5 => b_Arrays_fill_50_5 F k5) (fun _ _ _ _ => none)
set_option maxRecDepth 100000 in
set_option maxHeartbeats 4000000 in
theorem t_Arrays_fill_50_5 (X : ev_X) (F : Nat) (d : Nat) (E : mx_E)  : ∀ (n : Nat) (l1 : Int32) (l2 : Int32) (l3 : Int32) (D : mx_D) (v : mx_D), g_Arrays_fill_50_5 F n l1 l2 l3 D = some v → ev X d 333 (5, [some (.ref 50), some (.int l1), some (.int l2), some (.int l3)], [], D, E) (qR none v E) := by
  intro n
  induction n with
  | zero => intro l1 l2 l3 D v h; cases h
  | succ n ih => intro l1 l2 l3 D v h; exact tb_Arrays_fill_50_5 X F d E (g_Arrays_fill_50_5 F n) ih l1 l2 l3 D v h
def g_Arrays_fill_50 (F : Nat) (a1 : Int32) (D : mx_D) : Option (mx_D) := (g_Arrays_fill_50_5 F F a1 (nI 0) (nI 4) D)
set_option maxRecDepth 100000 in
set_option maxHeartbeats 4000000 in
theorem t_Arrays_fill_50 (X : ev_X) (F : Nat) (d : Nat) (E : mx_E) (a1 : Int32) (D : mx_D) (v : mx_D) (h : g_Arrays_fill_50 F a1 D = some v) : ev X d 333 (0, [some (.ref 50), some (.int a1), none, none], [], D, E) (qR none v E) := by
  have hq : kq_m 333 = some kq_q333 := rfl
  unfold g_Arrays_fill_50 at h
  refine gv_n hq 5 (S' := (5, [some (.ref 50), some (.int a1), some (.int (nI 0)), some (.int (nI 4))], [], D, E)) rfl ?_
  exact gv_w (t_Arrays_fill_50_5 X F d E F _ _ _ _ _ h) (And.intro rfl (And.intro rfl (And.intro rfl (And.intro rfl trivial))))
def b_BookSearch_begin_80 (F : Nat) (k58 : Int32 → mx_D → Option (mx_D)) (k80 : Int32 → Int32 → mx_D → Option (mx_D)) (l2 : Int32) (l3 : Int32) (D : mx_D) : Option (mx_D) := (if (D 19 12) ≤ l3 then (k58 (l2 + (nI 1)) D) else (if ((l2 >>> (l3 &&& 31)) &&& (nI 1)) = 0 then (k80 l2 (l3 + (nI 1)) D) else (rk 32 l2 (rk 5 l3 (rk 32 l2 (rk 32 l2 (rk 5 l3 (rk 32 l2 (k80 l2 (l3 + (nI 1)) (sD (sD D 47 (l2).toNatClampNeg ((D 47 (l2).toNatClampNeg) + (D 32 (l3).toNatClampNeg))) 48 (l2).toNatClampNeg (((sD D 47 (l2).toNatClampNeg ((D 47 (l2).toNatClampNeg) + (D 32 (l3).toNatClampNeg))) 48 (l2).toNatClampNeg) + (kq_wt (l3).toNatClampNeg))))))))))))
set_option maxRecDepth 100000 in
set_option maxHeartbeats 4000000 in
theorem tb_BookSearch_begin_80 (X : ev_X) (F : Nat) (d : Nat) (hd : 4 ≤ d + 1) (E : mx_E) (k58 : Int32 → mx_D → Option (mx_D)) (k80 : Int32 → Int32 → mx_D → Option (mx_D)) (K58 : ∀ (l2 : Int32) (D : mx_D) (v : mx_D), k58 l2 D = some v → ev X (d + 1) 2 (58, [some (.ref 45), none, some (.int l2), none], [], D, E) (qR none v E)) (K80 : ∀ (l2 : Int32) (l3 : Int32) (D : mx_D) (v : mx_D), k80 l2 l3 D = some v → ev X (d + 1) 2 (80, [some (.ref 45), none, some (.int l2), some (.int l3)], [], D, E) (qR none v E)) (l2 : Int32) (l3 : Int32) (D : mx_D) (v : mx_D) (h : b_BookSearch_begin_80 F k58 k80 l2 l3 D = some v) : ev X (d + 1) 2 (80, [some (.ref 45), none, some (.int l2), some (.int l3)], [], D, E) (qR none v E) := by
  have hq : kq_m 2 = some kq_q2 := rfl
  unfold b_BookSearch_begin_80 at h
  refine gv_n hq 4 (S' := (88, [some (.ref 45), none, some (.int l2), some (.int l3)], [.int (D 19 12), .int l3], D, E)) rfl ?_
  refine gv_b hq rfl h 137 91 rfl rfl rfl (fun h => ?_) (fun h => ?_)
  · refine gv_n hq 2 (S' := (58, [some (.ref 45), none, some (.int (l2 + (nI 1))), some (.int l3)], [], D, E)) rfl ?_
    exact gv_w (K58 _ _ _ h) (And.intro rfl (And.intro rfl trivial))
  · refine gv_n hq 5 (S' := (96, [some (.ref 45), none, some (.int l2), some (.int l3)], [.int ((l2 >>> (l3 &&& 31)) &&& (nI 1))], D, E)) rfl ?_
    refine gv_b hq rfl h 131 99 rfl rfl rfl (fun h => ?_) (fun h => ?_)
    · refine gv_n hq 2 (S' := (80, [some (.ref 45), none, some (.int l2), some (.int (l3 + (nI 1)))], [], D, E)) rfl ?_
      exact gv_w (K80 _ _ _ _ h) (And.intro rfl (And.intro rfl (And.intro rfl trivial)))
    · refine gv_n hq 4 (S' := (105, [some (.ref 45), none, some (.int l2), some (.int l3)], [.int l2, .ref 47, .int l2, .ref 47], D, E)) rfl ?_
      refine gv_ia hq rfl rfl rfl h 106 rfl (fun h => ?_)
      refine gv_n hq 4 (S' := (114, [some (.ref 45), none, some (.int l2), some (.int l3)], [.int l3, .ref 32, .int (D 47 (l2).toNatClampNeg), .int l2, .ref 47], D, E)) rfl ?_
      refine gv_ia hq rfl rfl rfl h 115 rfl (fun h => ?_)
      refine gv_n hq 1 (S' := (116, [some (.ref 45), none, some (.int l2), some (.int l3)], [.int ((D 47 (l2).toNatClampNeg) + (D 32 (l3).toNatClampNeg)), .int l2, .ref 47], D, E)) rfl ?_
      refine gv_is hq rfl rfl h 117 rfl (fun h => ?_)
      refine gv_n hq 4 (S' := (123, [some (.ref 45), none, some (.int l2), some (.int l3)], [.int l2, .ref 48, .int l2, .ref 48], (sD D 47 (l2).toNatClampNeg ((D 47 (l2).toNatClampNeg) + (D 32 (l3).toNatClampNeg))), E)) rfl ?_
      refine gv_ia hq rfl rfl rfl h 124 rfl (fun h => ?_)
      refine gv_n hq 2 (S' := (128, [some (.ref 45), none, some (.int l2), some (.int l3)], [.int l3, .ref 2000, .int ((sD D 47 (l2).toNatClampNeg ((D 47 (l2).toNatClampNeg) + (D 32 (l3).toNatClampNeg))) 48 (l2).toNatClampNeg), .int l2, .ref 48], (sD D 47 (l2).toNatClampNeg ((D 47 (l2).toNatClampNeg) + (D 32 (l3).toNatClampNeg))), E)) rfl ?_
      refine gv_ix hq rfl rfl h 129 rfl (fun h => ?_)
      refine gv_n hq 1 (S' := (130, [some (.ref 45), none, some (.int l2), some (.int l3)], [.int (((sD D 47 (l2).toNatClampNeg ((D 47 (l2).toNatClampNeg) + (D 32 (l3).toNatClampNeg))) 48 (l2).toNatClampNeg) + (kq_wt (l3).toNatClampNeg)), .int l2, .ref 48], (sD D 47 (l2).toNatClampNeg ((D 47 (l2).toNatClampNeg) + (D 32 (l3).toNatClampNeg))), E)) rfl ?_
      refine gv_is hq rfl rfl h 131 rfl (fun h => ?_)
      refine gv_n hq 2 (S' := (80, [some (.ref 45), none, some (.int l2), some (.int (l3 + (nI 1)))], [], (sD (sD D 47 (l2).toNatClampNeg ((D 47 (l2).toNatClampNeg) + (D 32 (l3).toNatClampNeg))) 48 (l2).toNatClampNeg (((sD D 47 (l2).toNatClampNeg ((D 47 (l2).toNatClampNeg) + (D 32 (l3).toNatClampNeg))) 48 (l2).toNatClampNeg) + (kq_wt (l3).toNatClampNeg))), E)) rfl ?_
      exact gv_w (K80 _ _ _ _ h) (And.intro rfl (And.intro rfl (And.intro rfl trivial)))
def g_BookSearch_begin_80 (F : Nat) (k58 : Int32 → mx_D → Option (mx_D)) : Nat → Int32 → Int32 → mx_D → Option (mx_D) := it (fun k80 => b_BookSearch_begin_80 F k58 k80) (fun _ _ _ => none)
set_option maxRecDepth 100000 in
set_option maxHeartbeats 4000000 in
theorem t_BookSearch_begin_80 (X : ev_X) (F : Nat) (d : Nat) (hd : 4 ≤ d + 1) (E : mx_E) (k58 : Int32 → mx_D → Option (mx_D)) (K58 : ∀ (l2 : Int32) (D : mx_D) (v : mx_D), k58 l2 D = some v → ev X (d + 1) 2 (58, [some (.ref 45), none, some (.int l2), none], [], D, E) (qR none v E)) : ∀ (n : Nat) (l2 : Int32) (l3 : Int32) (D : mx_D) (v : mx_D), g_BookSearch_begin_80 F k58 n l2 l3 D = some v → ev X (d + 1) 2 (80, [some (.ref 45), none, some (.int l2), some (.int l3)], [], D, E) (qR none v E) := by
  intro n
  induction n with
  | zero => intro l2 l3 D v h; cases h
  | succ n ih => intro l2 l3 D v h; exact tb_BookSearch_begin_80 X F d hd E k58 (g_BookSearch_begin_80 F k58 n) K58 ih l2 l3 D v h
def b_BookSearch_begin_58 (F : Nat) (k58 : Int32 → mx_D → Option (mx_D)) (l2 : Int32) (D : mx_D) : Option (mx_D) := (if (nI 32) ≤ l2 then (Option.bind (g_Arrays_fill_49 F (nI 10000) D) (fun r1 => (Option.bind (g_Arrays_fill_50 F (-10000 : Int32) r1) (fun r2 => (some r2))))) else (rk 32 l2 (rk 32 l2 (g_BookSearch_begin_80 F k58 F l2 (nI 0) (sD (sD D 47 (l2).toNatClampNeg (nI 0)) 48 (l2).toNatClampNeg (nI 0))))))
set_option maxRecDepth 100000 in
set_option maxHeartbeats 4000000 in
theorem tb_BookSearch_begin_58 (X : ev_X) (F : Nat) (d : Nat) (hd : 4 ≤ d + 1) (E : mx_E) (k58 : Int32 → mx_D → Option (mx_D)) (K58 : ∀ (l2 : Int32) (D : mx_D) (v : mx_D), k58 l2 D = some v → ev X (d + 1) 2 (58, [some (.ref 45), none, some (.int l2), none], [], D, E) (qR none v E)) (l2 : Int32) (D : mx_D) (v : mx_D) (h : b_BookSearch_begin_58 F k58 l2 D = some v) : ev X (d + 1) 2 (58, [some (.ref 45), none, some (.int l2), none], [], D, E) (qR none v E) := by
  have hq : kq_m 2 = some kq_q2 := rfl
  unfold b_BookSearch_begin_58 at h
  refine gv_n hq 2 (S' := (61, [some (.ref 45), none, some (.int l2), none], [.int (nI 32), .int l2], D, E)) rfl ?_
  refine gv_b hq rfl h 143 64 rfl rfl rfl (fun h => ?_) (fun h => ?_)
  · refine gv_n hq 3 (S' := (150, [some (.ref 45), none, some (.int l2), none], [.int (nI 10000), .ref 49], D, E)) rfl ?_
    obtain ⟨r1, h1, h⟩ := Option.bind_eq_some_iff.mp h
    refine gv_d hq rfl rfl rfl rfl rfl ((t_Arrays_fill_49 X F d E _ _ _ h1)) (S' := (153, [some (.ref 45), none, some (.int l2), none], [], r1, E)) rfl ?_
    refine gv_n hq 3 (S' := (160, [some (.ref 45), none, some (.int l2), none], [.int (-10000 : Int32), .ref 50], r1, E)) rfl ?_
    obtain ⟨r2, h1, h⟩ := Option.bind_eq_some_iff.mp h
    refine gv_d hq rfl rfl rfl rfl rfl ((t_Arrays_fill_50 X F d E _ _ _ h1)) (S' := (163, [some (.ref 45), none, some (.int l2), none], [], r2, E)) rfl ?_
    cases h
    exact ev_ret hq rfl rfl ⟨rfl, rfl, rfl⟩
  · refine gv_n hq 4 (S' := (70, [some (.ref 45), none, some (.int l2), none], [.int (nI 0), .int l2, .ref 47], D, E)) rfl ?_
    refine gv_is hq rfl rfl h 71 rfl (fun h => ?_)
    refine gv_n hq 4 (S' := (77, [some (.ref 45), none, some (.int l2), none], [.int (nI 0), .int l2, .ref 48], (sD D 47 (l2).toNatClampNeg (nI 0)), E)) rfl ?_
    refine gv_is hq rfl rfl h 78 rfl (fun h => ?_)
    refine gv_n hq 2 (S' := (80, [some (.ref 45), none, some (.int l2), some (.int (nI 0))], [], (sD (sD D 47 (l2).toNatClampNeg (nI 0)) 48 (l2).toNatClampNeg (nI 0)), E)) rfl ?_
    exact gv_w (t_BookSearch_begin_80 X F d hd E k58 K58 F _ _ _ _ h) (And.intro rfl (And.intro rfl (And.intro rfl trivial)))
def g_BookSearch_begin_58 (F : Nat) : Nat → Int32 → mx_D → Option (mx_D) := it (fun k58 => b_BookSearch_begin_58 F k58) (fun _ _ => none)
set_option maxRecDepth 100000 in
set_option maxHeartbeats 4000000 in
theorem t_BookSearch_begin_58 (X : ev_X) (F : Nat) (d : Nat) (hd : 4 ≤ d + 1) (E : mx_E)  : ∀ (n : Nat) (l2 : Int32) (D : mx_D) (v : mx_D), g_BookSearch_begin_58 F n l2 D = some v → ev X (d + 1) 2 (58, [some (.ref 45), none, some (.int l2), none], [], D, E) (qR none v E) := by
  intro n
  induction n with
  | zero => intro l2 D v h; cases h
  | succ n ih => intro l2 D v h; exact tb_BookSearch_begin_58 X F d hd E (g_BookSearch_begin_58 F n) ih l2 D v h
def b_BookSearch_begin_12 (F : Nat) (k12 : Int32 → Int32 → mx_D → Option (mx_D)) (l1 : Int32) (l2 : Int32) (D : mx_D) : Option (mx_D) := (if (D 24 6) ≤ l2 then (g_BookSearch_begin_58 F F (nI 0) D) else (Option.bind (g_Church_highOf F D l2 l1) (fun r3 => (Option.bind (g_Church_bookHighUnder F D l2) (fun r4 => (rk 8 l2 (k12 l1 (l2 + (nI 1)) (sD D 46 (l2).toNatClampNeg (r3 - r4)))))))))
set_option maxRecDepth 100000 in
set_option maxHeartbeats 4000000 in
theorem tb_BookSearch_begin_12 (X : ev_X) (F : Nat) (d : Nat) (hd : 4 ≤ d + 1) (E : mx_E) (k12 : Int32 → Int32 → mx_D → Option (mx_D)) (K12 : ∀ (l1 : Int32) (l2 : Int32) (D : mx_D) (v : mx_D), k12 l1 l2 D = some v → ev X (d + 1) 2 (12, [some (.ref 45), some (.int l1), some (.int l2), none], [], D, E) (qR none v E)) (l1 : Int32) (l2 : Int32) (D : mx_D) (v : mx_D) (h : b_BookSearch_begin_12 F k12 l1 l2 D = some v) : ev X (d + 1) 2 (12, [some (.ref 45), some (.int l1), some (.int l2), none], [], D, E) (qR none v E) := by
  have hq : kq_m 2 = some kq_q2 := rfl
  unfold b_BookSearch_begin_12 at h
  refine gv_n hq 5 (S' := (23, [some (.ref 45), some (.int l1), some (.int l2), none], [.int (D 24 6), .int l2], D, E)) rfl ?_
  refine gv_b hq rfl h 56 26 rfl rfl rfl (fun h => ?_) (fun h => ?_)
  · refine gv_n hq 2 (S' := (58, [some (.ref 45), some (.int l1), some (.int (nI 0)), none], [], D, E)) rfl ?_
    exact gv_w (t_BookSearch_begin_58 X F d hd E F _ _ _ h) (And.intro rfl (And.intro rfl trivial))
  · refine gv_n hq 7 (S' := (37, [some (.ref 45), some (.int l1), some (.int l2), none], [.int l1, .int l2, .ref 19, .int l2, .ref 46], D, E)) rfl ?_
    obtain ⟨r3, h1, h⟩ := Option.bind_eq_some_iff.mp h
    refine gv_d hq rfl rfl rfl rfl rfl (gv_dd (by omega) (t_Church_highOf X F (d - 1) (by omega) D E _ _ _ h1)) (S' := (40, [some (.ref 45), some (.int l1), some (.int l2), none], [.int r3, .int l2, .ref 46], D, E)) rfl ?_
    refine gv_n hq 3 (S' := (45, [some (.ref 45), some (.int l1), some (.int l2), none], [.int l2, .ref 19, .int r3, .int l2, .ref 46], D, E)) rfl ?_
    obtain ⟨r4, h1, h⟩ := Option.bind_eq_some_iff.mp h
    refine gv_d hq rfl rfl rfl rfl rfl ((t_Church_bookHighUnder X F d D E _ _ h1)) (S' := (48, [some (.ref 45), some (.int l1), some (.int l2), none], [.int r4, .int r3, .int l2, .ref 46], D, E)) rfl ?_
    refine gv_n hq 1 (S' := (49, [some (.ref 45), some (.int l1), some (.int l2), none], [.int (r3 - r4), .int l2, .ref 46], D, E)) rfl ?_
    refine gv_is hq rfl rfl h 50 rfl (fun h => ?_)
    refine gv_n hq 2 (S' := (12, [some (.ref 45), some (.int l1), some (.int (l2 + (nI 1))), none], [], (sD D 46 (l2).toNatClampNeg (r3 - r4)), E)) rfl ?_
    exact gv_w (K12 _ _ _ _ h) (And.intro rfl (And.intro rfl (And.intro rfl trivial)))
def g_BookSearch_begin_12 (F : Nat) : Nat → Int32 → Int32 → mx_D → Option (mx_D) := it (fun k12 => b_BookSearch_begin_12 F k12) (fun _ _ _ => none)
set_option maxRecDepth 100000 in
set_option maxHeartbeats 4000000 in
theorem t_BookSearch_begin_12 (X : ev_X) (F : Nat) (d : Nat) (hd : 4 ≤ d + 1) (E : mx_E)  : ∀ (n : Nat) (l1 : Int32) (l2 : Int32) (D : mx_D) (v : mx_D), g_BookSearch_begin_12 F n l1 l2 D = some v → ev X (d + 1) 2 (12, [some (.ref 45), some (.int l1), some (.int l2), none], [], D, E) (qR none v E) := by
  intro n
  induction n with
  | zero => intro l1 l2 D v h; cases h
  | succ n ih => intro l1 l2 D v h; exact tb_BookSearch_begin_12 X F d hd E (g_BookSearch_begin_12 F n) ih l1 l2 D v h
def g_BookSearch_begin (F : Nat) (a1 : Int32) (D : mx_D) : Option (mx_D) := (g_BookSearch_begin_12 F F a1 (nI 0) (sD (sD D 45 0 (nI 0)) 45 7 (-1 : Int32)))
set_option maxRecDepth 100000 in
set_option maxHeartbeats 4000000 in
theorem t_BookSearch_begin (X : ev_X) (F : Nat) (d : Nat) (hd : 4 ≤ d + 1) (E : mx_E) (a1 : Int32) (D : mx_D) (v : mx_D) (h : g_BookSearch_begin F a1 D = some v) : ev X (d + 1) 2 (0, [some (.ref 45), some (.int a1), none, none], [], D, E) (qR none v E) := by
  have hq : kq_m 2 = some kq_q2 := rfl
  unfold g_BookSearch_begin at h
  refine gv_n hq 8 (S' := (12, [some (.ref 45), some (.int a1), some (.int (nI 0)), none], [], (sD (sD D 45 0 (nI 0)) 45 7 (-1 : Int32)), E)) rfl ?_
  exact gv_w (t_BookSearch_begin_12 X F d hd E F _ _ _ _ h) (And.intro rfl (And.intro rfl (And.intro rfl trivial)))
def b_BookSearch_give_269 (F : Nat) (kS : Int32 → Int32 → Int32 → Int32 → mx_D → Option (mx_D)) (l5 : Int32) (l6 : Int32) (l7 : Int32) (D : mx_D) : Option (mx_D) := (rk 4 l5 (rk 4 l5 (some (sD (sD D 49 (l5).toNatClampNeg l6) 50 (l5).toNatClampNeg l7))))
set_option maxRecDepth 100000 in
set_option maxHeartbeats 4000000 in
theorem tb_BookSearch_give_269 (X : ev_X) (F : Nat) (d : Nat) (hd : 2 ≤ d + 1) (E : mx_E) (kS : Int32 → Int32 → Int32 → Int32 → mx_D → Option (mx_D)) (KS : ∀ (a1 : Int32) (a2 : Int32) (a3 : Int32) (a4 : Int32) (D : mx_D) (v : mx_D), kS a1 a2 a3 a4 D = some v → ev X d 3 (0, [some (.ref 45), some (.int a1), some (.int a2), some (.int a3), some (.int a4), none, none, none, none, none, none, none], [], D, E) (qR none v E)) (l5 : Int32) (l6 : Int32) (l7 : Int32) (D : mx_D) (v : mx_D) (h : b_BookSearch_give_269 F kS l5 l6 l7 D = some v) : ev X (d + 1) 3 (269, [some (.ref 45), none, none, none, none, some (.int l5), some (.int l6), some (.int l7), none, none, none, none], [], D, E) (qR none v E) := by
  have hq : kq_m 3 = some kq_q3 := rfl
  unfold b_BookSearch_give_269 at h
  refine gv_n hq 4 (S' := (277, [some (.ref 45), none, none, none, none, some (.int l5), some (.int l6), some (.int l7), none, none, none, none], [.int l6, .int l5, .ref 49], D, E)) rfl ?_
  refine gv_is hq rfl rfl h 278 rfl (fun h => ?_)
  refine gv_n hq 4 (S' := (286, [some (.ref 45), none, none, none, none, some (.int l5), some (.int l6), some (.int l7), none, none, none, none], [.int l7, .int l5, .ref 50], (sD D 49 (l5).toNatClampNeg l6), E)) rfl ?_
  refine gv_is hq rfl rfl h 287 rfl (fun h => ?_)
  cases h
  exact ev_ret hq rfl rfl ⟨rfl, rfl, rfl⟩
def b_BookSearch_give_121 (F : Nat) (kS : Int32 → Int32 → Int32 → Int32 → mx_D → Option (mx_D)) (k121 : Int32 → Int32 → Int32 → Int32 → Int32 → Int32 → Int32 → Int32 → mx_D → Option (mx_D)) (l1 : Int32) (l2 : Int32) (l3 : Int32) (l4 : Int32) (l5 : Int32) (l6 : Int32) (l7 : Int32) (l8 : Int32) (D : mx_D) : Option (mx_D) := (if l2 < l8 then (b_BookSearch_give_269 F kS l5 l6 l7 D) else (if (l8 &&& (l2 ^^^ (-1 : Int32))) = 0 then (if (g_Integer_bitCount l8) ≤ l4 then (rk 8 l1 (rk 32 l8 (rk 4 l5 (rk 4 l5 (rk 4 l5 (rk 4 l5 (if ((sD (sD D 49 (l5).toNatClampNeg (imn l6 ((D 46 (l1).toNatClampNeg) + (D 47 (l8).toNatClampNeg)))) 50 (l5).toNatClampNeg (imx l7 ((D 46 (l1).toNatClampNeg) + (D 47 (l8).toNatClampNeg)))) 19 2) < (((sD (sD D 49 (l5).toNatClampNeg (imn l6 ((D 46 (l1).toNatClampNeg) + (D 47 (l8).toNatClampNeg)))) 50 (l5).toNatClampNeg (imx l7 ((D 46 (l1).toNatClampNeg) + (D 47 (l8).toNatClampNeg)))) 50 (l5).toNatClampNeg) - ((sD (sD D 49 (l5).toNatClampNeg (imn l6 ((D 46 (l1).toNatClampNeg) + (D 47 (l8).toNatClampNeg)))) 50 (l5).toNatClampNeg (imx l7 ((D 46 (l1).toNatClampNeg) + (D 47 (l8).toNatClampNeg)))) 49 (l5).toNatClampNeg)) then (k121 l1 l2 l3 l4 l5 l6 l7 (l8 + (nI 1)) (sD (sD D 49 (l5).toNatClampNeg (imn l6 ((D 46 (l1).toNatClampNeg) + (D 47 (l8).toNatClampNeg)))) 50 (l5).toNatClampNeg (imx l7 ((D 46 (l1).toNatClampNeg) + (D 47 (l8).toNatClampNeg))))) else (rk 32 l8 (Option.bind (kS (l1 + (nI 1)) (l2 &&& (l8 ^^^ (-1 : Int32))) ((l3 + ((g_Integer_bitCount l8) * (nI 59049))) + ((l1 + (nI 1)) * ((sD (sD D 49 (l5).toNatClampNeg (imn l6 ((D 46 (l1).toNatClampNeg) + (D 47 (l8).toNatClampNeg)))) 50 (l5).toNatClampNeg (imx l7 ((D 46 (l1).toNatClampNeg) + (D 47 (l8).toNatClampNeg)))) 48 (l8).toNatClampNeg))) (l4 - (g_Integer_bitCount l8)) (sD (sD D 49 (l5).toNatClampNeg (imn l6 ((D 46 (l1).toNatClampNeg) + (D 47 (l8).toNatClampNeg)))) 50 (l5).toNatClampNeg (imx l7 ((D 46 (l1).toNatClampNeg) + (D 47 (l8).toNatClampNeg))))) (fun r3 => (k121 l1 l2 l3 l4 l5 l6 l7 (l8 + (nI 1)) r3))))))))))) else (k121 l1 l2 l3 l4 l5 l6 l7 (l8 + (nI 1)) D)) else (k121 l1 l2 l3 l4 l5 l6 l7 (l8 + (nI 1)) D)))
set_option maxRecDepth 100000 in
set_option maxHeartbeats 4000000 in
theorem tb_BookSearch_give_121 (X : ev_X) (F : Nat) (d : Nat) (hd : 2 ≤ d + 1) (E : mx_E) (kS : Int32 → Int32 → Int32 → Int32 → mx_D → Option (mx_D)) (k121 : Int32 → Int32 → Int32 → Int32 → Int32 → Int32 → Int32 → Int32 → mx_D → Option (mx_D)) (KS : ∀ (a1 : Int32) (a2 : Int32) (a3 : Int32) (a4 : Int32) (D : mx_D) (v : mx_D), kS a1 a2 a3 a4 D = some v → ev X d 3 (0, [some (.ref 45), some (.int a1), some (.int a2), some (.int a3), some (.int a4), none, none, none, none, none, none, none], [], D, E) (qR none v E)) (K121 : ∀ (l1 : Int32) (l2 : Int32) (l3 : Int32) (l4 : Int32) (l5 : Int32) (l6 : Int32) (l7 : Int32) (l8 : Int32) (D : mx_D) (v : mx_D), k121 l1 l2 l3 l4 l5 l6 l7 l8 D = some v → ev X (d + 1) 3 (121, [some (.ref 45), some (.int l1), some (.int l2), some (.int l3), some (.int l4), some (.int l5), some (.int l6), some (.int l7), some (.int l8), none, none, none], [], D, E) (qR none v E)) (l1 : Int32) (l2 : Int32) (l3 : Int32) (l4 : Int32) (l5 : Int32) (l6 : Int32) (l7 : Int32) (l8 : Int32) (D : mx_D) (v : mx_D) (h : b_BookSearch_give_121 F kS k121 l1 l2 l3 l4 l5 l6 l7 l8 D = some v) : ev X (d + 1) 3 (121, [some (.ref 45), some (.int l1), some (.int l2), some (.int l3), some (.int l4), some (.int l5), some (.int l6), some (.int l7), some (.int l8), none, none, none], [], D, E) (qR none v E) := by
  have hq : kq_m 3 = some kq_q3 := rfl
  unfold b_BookSearch_give_121 at h
  refine gv_n hq 2 (S' := (124, [some (.ref 45), some (.int l1), some (.int l2), some (.int l3), some (.int l4), some (.int l5), some (.int l6), some (.int l7), some (.int l8), none, none, none], [.int l2, .int l8], D, E)) rfl ?_
  refine gv_b hq rfl h 269 127 rfl rfl rfl (fun h => ?_) (fun h => ?_)
  · exact gv_w (tb_BookSearch_give_269 X F d hd E kS KS _ _ _ _ _ h) (And.intro rfl (And.intro rfl (And.intro rfl (And.intro rfl trivial))))
  · refine gv_n hq 1 (S' := (129, [some (.ref 45), some (.int l1), some (.int l2), some (.int l3), some (.int l4), some (.int l5), some (.int l6), some (.int l7), some (.int l8), none, none, none], [.int l8], D, E)) rfl ?_
    refine gv_d hq rfl rfl rfl rfl rfl ((t_Integer_bitCount X d D E _ _ rfl)) (S' := (132, [some (.ref 45), some (.int l1), some (.int l2), some (.int l3), some (.int l4), some (.int l5), some (.int l6), some (.int l7), some (.int l8), none, none, none], [.int (g_Integer_bitCount l8)], D, E)) rfl ?_
    refine gv_n hq 6 (S' := (140, [some (.ref 45), some (.int l1), some (.int l2), some (.int l3), some (.int l4), some (.int l5), some (.int l6), some (.int l7), some (.int l8), some (.int (g_Integer_bitCount l8)), none, none], [.int (l8 &&& (l2 ^^^ (-1 : Int32)))], D, E)) rfl ?_
    refine gv_b hq rfl h 143 263 rfl rfl rfl (fun h => ?_) (fun h => ?_)
    · refine gv_n hq 2 (S' := (147, [some (.ref 45), some (.int l1), some (.int l2), some (.int l3), some (.int l4), some (.int l5), some (.int l6), some (.int l7), some (.int l8), some (.int (g_Integer_bitCount l8)), none, none], [.int l4, .int (g_Integer_bitCount l8)], D, E)) rfl ?_
      refine gv_b hq rfl h 153 150 rfl rfl rfl (fun h => ?_) (fun h => ?_)
      · refine gv_n hq 3 (S' := (158, [some (.ref 45), some (.int l1), some (.int l2), some (.int l3), some (.int l4), some (.int l5), some (.int l6), some (.int l7), some (.int l8), some (.int (g_Integer_bitCount l8)), none, none], [.int l1, .ref 46], D, E)) rfl ?_
        refine gv_ia hq rfl rfl rfl h 159 rfl (fun h => ?_)
        refine gv_n hq 3 (S' := (165, [some (.ref 45), some (.int l1), some (.int l2), some (.int l3), some (.int l4), some (.int l5), some (.int l6), some (.int l7), some (.int l8), some (.int (g_Integer_bitCount l8)), none, none], [.int l8, .ref 47, .int (D 46 (l1).toNatClampNeg)], D, E)) rfl ?_
        refine gv_ia hq rfl rfl rfl h 166 rfl (fun h => ?_)
        refine gv_n hq 8 (S' := (182, [some (.ref 45), some (.int l1), some (.int l2), some (.int l3), some (.int l4), some (.int l5), some (.int l6), some (.int l7), some (.int l8), some (.int (g_Integer_bitCount l8)), some (.int ((D 46 (l1).toNatClampNeg) + (D 47 (l8).toNatClampNeg))), none], [.int (imn l6 ((D 46 (l1).toNatClampNeg) + (D 47 (l8).toNatClampNeg))), .int l5, .ref 49], D, E)) rfl ?_
        refine gv_is hq rfl rfl h 183 rfl (fun h => ?_)
        refine gv_n hq 6 (S' := (196, [some (.ref 45), some (.int l1), some (.int l2), some (.int l3), some (.int l4), some (.int l5), some (.int l6), some (.int l7), some (.int l8), some (.int (g_Integer_bitCount l8)), some (.int ((D 46 (l1).toNatClampNeg) + (D 47 (l8).toNatClampNeg))), none], [.int (imx l7 ((D 46 (l1).toNatClampNeg) + (D 47 (l8).toNatClampNeg))), .int l5, .ref 50], (sD D 49 (l5).toNatClampNeg (imn l6 ((D 46 (l1).toNatClampNeg) + (D 47 (l8).toNatClampNeg)))), E)) rfl ?_
        refine gv_is hq rfl rfl h 197 rfl (fun h => ?_)
        refine gv_n hq 3 (S' := (203, [some (.ref 45), some (.int l1), some (.int l2), some (.int l3), some (.int l4), some (.int l5), some (.int l6), some (.int l7), some (.int l8), some (.int (g_Integer_bitCount l8)), some (.int ((D 46 (l1).toNatClampNeg) + (D 47 (l8).toNatClampNeg))), none], [.int l5, .ref 50], (sD (sD D 49 (l5).toNatClampNeg (imn l6 ((D 46 (l1).toNatClampNeg) + (D 47 (l8).toNatClampNeg)))) 50 (l5).toNatClampNeg (imx l7 ((D 46 (l1).toNatClampNeg) + (D 47 (l8).toNatClampNeg)))), E)) rfl ?_
        refine gv_ia hq rfl rfl rfl h 204 rfl (fun h => ?_)
        refine gv_n hq 3 (S' := (210, [some (.ref 45), some (.int l1), some (.int l2), some (.int l3), some (.int l4), some (.int l5), some (.int l6), some (.int l7), some (.int l8), some (.int (g_Integer_bitCount l8)), some (.int ((D 46 (l1).toNatClampNeg) + (D 47 (l8).toNatClampNeg))), none], [.int l5, .ref 49, .int ((sD (sD D 49 (l5).toNatClampNeg (imn l6 ((D 46 (l1).toNatClampNeg) + (D 47 (l8).toNatClampNeg)))) 50 (l5).toNatClampNeg (imx l7 ((D 46 (l1).toNatClampNeg) + (D 47 (l8).toNatClampNeg)))) 50 (l5).toNatClampNeg)], (sD (sD D 49 (l5).toNatClampNeg (imn l6 ((D 46 (l1).toNatClampNeg) + (D 47 (l8).toNatClampNeg)))) 50 (l5).toNatClampNeg (imx l7 ((D 46 (l1).toNatClampNeg) + (D 47 (l8).toNatClampNeg)))), E)) rfl ?_
        refine gv_ia hq rfl rfl rfl h 211 rfl (fun h => ?_)
        refine gv_n hq 4 (S' := (219, [some (.ref 45), some (.int l1), some (.int l2), some (.int l3), some (.int l4), some (.int l5), some (.int l6), some (.int l7), some (.int l8), some (.int (g_Integer_bitCount l8)), some (.int ((D 46 (l1).toNatClampNeg) + (D 47 (l8).toNatClampNeg))), none], [.int ((sD (sD D 49 (l5).toNatClampNeg (imn l6 ((D 46 (l1).toNatClampNeg) + (D 47 (l8).toNatClampNeg)))) 50 (l5).toNatClampNeg (imx l7 ((D 46 (l1).toNatClampNeg) + (D 47 (l8).toNatClampNeg)))) 19 2), .int (((sD (sD D 49 (l5).toNatClampNeg (imn l6 ((D 46 (l1).toNatClampNeg) + (D 47 (l8).toNatClampNeg)))) 50 (l5).toNatClampNeg (imx l7 ((D 46 (l1).toNatClampNeg) + (D 47 (l8).toNatClampNeg)))) 50 (l5).toNatClampNeg) - ((sD (sD D 49 (l5).toNatClampNeg (imn l6 ((D 46 (l1).toNatClampNeg) + (D 47 (l8).toNatClampNeg)))) 50 (l5).toNatClampNeg (imx l7 ((D 46 (l1).toNatClampNeg) + (D 47 (l8).toNatClampNeg)))) 49 (l5).toNatClampNeg))], (sD (sD D 49 (l5).toNatClampNeg (imn l6 ((D 46 (l1).toNatClampNeg) + (D 47 (l8).toNatClampNeg)))) 50 (l5).toNatClampNeg (imx l7 ((D 46 (l1).toNatClampNeg) + (D 47 (l8).toNatClampNeg)))), E)) rfl ?_
        refine gv_b hq rfl h 263 222 rfl rfl rfl (fun h => ?_) (fun h => ?_)
        · refine gv_n hq 2 (S' := (121, [some (.ref 45), some (.int l1), some (.int l2), some (.int l3), some (.int l4), some (.int l5), some (.int l6), some (.int l7), some (.int (l8 + (nI 1))), some (.int (g_Integer_bitCount l8)), some (.int ((D 46 (l1).toNatClampNeg) + (D 47 (l8).toNatClampNeg))), none], [], (sD (sD D 49 (l5).toNatClampNeg (imn l6 ((D 46 (l1).toNatClampNeg) + (D 47 (l8).toNatClampNeg)))) 50 (l5).toNatClampNeg (imx l7 ((D 46 (l1).toNatClampNeg) + (D 47 (l8).toNatClampNeg)))), E)) rfl ?_
          exact gv_w (K121 _ _ _ _ _ _ _ _ _ _ h) (And.intro rfl (And.intro rfl (And.intro rfl (And.intro rfl (And.intro rfl (And.intro rfl (And.intro rfl (And.intro rfl (And.intro rfl trivial)))))))))
        · refine gv_n hq 11 (S' := (238, [some (.ref 45), some (.int l1), some (.int l2), some (.int l3), some (.int l4), some (.int l5), some (.int l6), some (.int l7), some (.int l8), some (.int (g_Integer_bitCount l8)), some (.int ((D 46 (l1).toNatClampNeg) + (D 47 (l8).toNatClampNeg))), none], [.int l8, .ref 48, .int (l1 + (nI 1)), .int (l3 + ((g_Integer_bitCount l8) * (nI 59049)))], (sD (sD D 49 (l5).toNatClampNeg (imn l6 ((D 46 (l1).toNatClampNeg) + (D 47 (l8).toNatClampNeg)))) 50 (l5).toNatClampNeg (imx l7 ((D 46 (l1).toNatClampNeg) + (D 47 (l8).toNatClampNeg)))), E)) rfl ?_
          refine gv_ia hq rfl rfl rfl h 239 rfl (fun h => ?_)
          refine gv_n hq 16 (S' := (260, [some (.ref 45), some (.int l1), some (.int l2), some (.int l3), some (.int l4), some (.int l5), some (.int l6), some (.int l7), some (.int l8), some (.int (g_Integer_bitCount l8)), some (.int ((D 46 (l1).toNatClampNeg) + (D 47 (l8).toNatClampNeg))), some (.int ((l3 + ((g_Integer_bitCount l8) * (nI 59049))) + ((l1 + (nI 1)) * ((sD (sD D 49 (l5).toNatClampNeg (imn l6 ((D 46 (l1).toNatClampNeg) + (D 47 (l8).toNatClampNeg)))) 50 (l5).toNatClampNeg (imx l7 ((D 46 (l1).toNatClampNeg) + (D 47 (l8).toNatClampNeg)))) 48 (l8).toNatClampNeg))))], [.int (l4 - (g_Integer_bitCount l8)), .int ((l3 + ((g_Integer_bitCount l8) * (nI 59049))) + ((l1 + (nI 1)) * ((sD (sD D 49 (l5).toNatClampNeg (imn l6 ((D 46 (l1).toNatClampNeg) + (D 47 (l8).toNatClampNeg)))) 50 (l5).toNatClampNeg (imx l7 ((D 46 (l1).toNatClampNeg) + (D 47 (l8).toNatClampNeg)))) 48 (l8).toNatClampNeg))), .int (l2 &&& (l8 ^^^ (-1 : Int32))), .int (l1 + (nI 1)), .ref 45], (sD (sD D 49 (l5).toNatClampNeg (imn l6 ((D 46 (l1).toNatClampNeg) + (D 47 (l8).toNatClampNeg)))) 50 (l5).toNatClampNeg (imx l7 ((D 46 (l1).toNatClampNeg) + (D 47 (l8).toNatClampNeg)))), E)) rfl ?_
          obtain ⟨r3, h1, h⟩ := Option.bind_eq_some_iff.mp h
          refine gv_d hq rfl rfl rfl rfl rfl ((KS _ _ _ _ _ _ h1)) (S' := (263, [some (.ref 45), some (.int l1), some (.int l2), some (.int l3), some (.int l4), some (.int l5), some (.int l6), some (.int l7), some (.int l8), some (.int (g_Integer_bitCount l8)), some (.int ((D 46 (l1).toNatClampNeg) + (D 47 (l8).toNatClampNeg))), some (.int ((l3 + ((g_Integer_bitCount l8) * (nI 59049))) + ((l1 + (nI 1)) * ((sD (sD D 49 (l5).toNatClampNeg (imn l6 ((D 46 (l1).toNatClampNeg) + (D 47 (l8).toNatClampNeg)))) 50 (l5).toNatClampNeg (imx l7 ((D 46 (l1).toNatClampNeg) + (D 47 (l8).toNatClampNeg)))) 48 (l8).toNatClampNeg))))], [], r3, E)) rfl ?_
          refine gv_n hq 2 (S' := (121, [some (.ref 45), some (.int l1), some (.int l2), some (.int l3), some (.int l4), some (.int l5), some (.int l6), some (.int l7), some (.int (l8 + (nI 1))), some (.int (g_Integer_bitCount l8)), some (.int ((D 46 (l1).toNatClampNeg) + (D 47 (l8).toNatClampNeg))), some (.int ((l3 + ((g_Integer_bitCount l8) * (nI 59049))) + ((l1 + (nI 1)) * ((sD (sD D 49 (l5).toNatClampNeg (imn l6 ((D 46 (l1).toNatClampNeg) + (D 47 (l8).toNatClampNeg)))) 50 (l5).toNatClampNeg (imx l7 ((D 46 (l1).toNatClampNeg) + (D 47 (l8).toNatClampNeg)))) 48 (l8).toNatClampNeg))))], [], r3, E)) rfl ?_
          exact gv_w (K121 _ _ _ _ _ _ _ _ _ _ h) (And.intro rfl (And.intro rfl (And.intro rfl (And.intro rfl (And.intro rfl (And.intro rfl (And.intro rfl (And.intro rfl (And.intro rfl trivial)))))))))
      · refine gv_n hq 3 (S' := (121, [some (.ref 45), some (.int l1), some (.int l2), some (.int l3), some (.int l4), some (.int l5), some (.int l6), some (.int l7), some (.int (l8 + (nI 1))), some (.int (g_Integer_bitCount l8)), none, none], [], D, E)) rfl ?_
        exact gv_w (K121 _ _ _ _ _ _ _ _ _ _ h) (And.intro rfl (And.intro rfl (And.intro rfl (And.intro rfl (And.intro rfl (And.intro rfl (And.intro rfl (And.intro rfl (And.intro rfl trivial)))))))))
    · refine gv_n hq 2 (S' := (121, [some (.ref 45), some (.int l1), some (.int l2), some (.int l3), some (.int l4), some (.int l5), some (.int l6), some (.int l7), some (.int (l8 + (nI 1))), some (.int (g_Integer_bitCount l8)), none, none], [], D, E)) rfl ?_
      exact gv_w (K121 _ _ _ _ _ _ _ _ _ _ h) (And.intro rfl (And.intro rfl (And.intro rfl (And.intro rfl (And.intro rfl (And.intro rfl (And.intro rfl (And.intro rfl (And.intro rfl trivial)))))))))
def g_BookSearch_give_121 (F : Nat) (kS : Int32 → Int32 → Int32 → Int32 → mx_D → Option (mx_D)) : Nat → Int32 → Int32 → Int32 → Int32 → Int32 → Int32 → Int32 → Int32 → mx_D → Option (mx_D) := it (fun k121 => b_BookSearch_give_121 F kS k121) (fun _ _ _ _ _ _ _ _ _ => none)
set_option maxRecDepth 100000 in
set_option maxHeartbeats 4000000 in
theorem t_BookSearch_give_121 (X : ev_X) (F : Nat) (d : Nat) (hd : 2 ≤ d + 1) (E : mx_E) (kS : Int32 → Int32 → Int32 → Int32 → mx_D → Option (mx_D)) (KS : ∀ (a1 : Int32) (a2 : Int32) (a3 : Int32) (a4 : Int32) (D : mx_D) (v : mx_D), kS a1 a2 a3 a4 D = some v → ev X d 3 (0, [some (.ref 45), some (.int a1), some (.int a2), some (.int a3), some (.int a4), none, none, none, none, none, none, none], [], D, E) (qR none v E)) : ∀ (n : Nat) (l1 : Int32) (l2 : Int32) (l3 : Int32) (l4 : Int32) (l5 : Int32) (l6 : Int32) (l7 : Int32) (l8 : Int32) (D : mx_D) (v : mx_D), g_BookSearch_give_121 F kS n l1 l2 l3 l4 l5 l6 l7 l8 D = some v → ev X (d + 1) 3 (121, [some (.ref 45), some (.int l1), some (.int l2), some (.int l3), some (.int l4), some (.int l5), some (.int l6), some (.int l7), some (.int l8), none, none, none], [], D, E) (qR none v E) := by
  intro n
  induction n with
  | zero => intro l1 l2 l3 l4 l5 l6 l7 l8 D v h; cases h
  | succ n ih => intro l1 l2 l3 l4 l5 l6 l7 l8 D v h; exact tb_BookSearch_give_121 X F d hd E kS (g_BookSearch_give_121 F kS n) KS ih l1 l2 l3 l4 l5 l6 l7 l8 D v h
def b_BookSearch_give_98 (F : Nat) (kS : Int32 → Int32 → Int32 → Int32 → mx_D → Option (mx_D)) (l1 : Int32) (l2 : Int32) (l3 : Int32) (l4 : Int32) (s0 : Int32) (D : mx_D) : Option (mx_D) := (rk 4 s0 (rk 4 s0 (g_BookSearch_give_121 F kS F l1 l2 l3 l4 s0 (D 49 (s0).toNatClampNeg) (D 50 (s0).toNatClampNeg) (nI 0) D)))
set_option maxRecDepth 100000 in
set_option maxHeartbeats 4000000 in
theorem tb_BookSearch_give_98 (X : ev_X) (F : Nat) (d : Nat) (hd : 2 ≤ d + 1) (E : mx_E) (kS : Int32 → Int32 → Int32 → Int32 → mx_D → Option (mx_D)) (KS : ∀ (a1 : Int32) (a2 : Int32) (a3 : Int32) (a4 : Int32) (D : mx_D) (v : mx_D), kS a1 a2 a3 a4 D = some v → ev X d 3 (0, [some (.ref 45), some (.int a1), some (.int a2), some (.int a3), some (.int a4), none, none, none, none, none, none, none], [], D, E) (qR none v E)) (l1 : Int32) (l2 : Int32) (l3 : Int32) (l4 : Int32) (s0 : Int32) (D : mx_D) (v : mx_D) (h : b_BookSearch_give_98 F kS l1 l2 l3 l4 s0 D = some v) : ev X (d + 1) 3 (98, [some (.ref 45), some (.int l1), some (.int l2), some (.int l3), some (.int l4), none, none, none, none, none, none, none], [.int s0], D, E) (qR none v E) := by
  have hq : kq_m 3 = some kq_q3 := rfl
  unfold b_BookSearch_give_98 at h
  refine gv_n hq 4 (S' := (106, [some (.ref 45), some (.int l1), some (.int l2), some (.int l3), some (.int l4), some (.int s0), none, none, none, none, none, none], [.int s0, .ref 49], D, E)) rfl ?_
  refine gv_ia hq rfl rfl rfl h 107 rfl (fun h => ?_)
  refine gv_n hq 4 (S' := (115, [some (.ref 45), some (.int l1), some (.int l2), some (.int l3), some (.int l4), some (.int s0), some (.int (D 49 (s0).toNatClampNeg)), none, none, none, none, none], [.int s0, .ref 50], D, E)) rfl ?_
  refine gv_ia hq rfl rfl rfl h 116 rfl (fun h => ?_)
  refine gv_n hq 3 (S' := (121, [some (.ref 45), some (.int l1), some (.int l2), some (.int l3), some (.int l4), some (.int s0), some (.int (D 49 (s0).toNatClampNeg)), some (.int (D 50 (s0).toNatClampNeg)), some (.int (nI 0)), none, none, none], [], D, E)) rfl ?_
  exact gv_w (t_BookSearch_give_121 X F d hd E kS KS F _ _ _ _ _ _ _ _ _ _ h) (And.intro rfl (And.intro rfl (And.intro rfl (And.intro rfl (And.intro rfl (And.intro rfl (And.intro rfl (And.intro rfl (And.intro rfl trivial)))))))))
def b_BookSearch_give (F : Nat) (kS : Int32 → Int32 → Int32 → Int32 → mx_D → Option (mx_D)) (a1 : Int32) (a2 : Int32) (a3 : Int32) (a4 : Int32) (D : mx_D) : Option (mx_D) := (if a1 < (D 24 6) then (Option.bind (g_Church_isSeated D a1) (fun r1 => (if r1 = 0 then (Option.bind (kS (a1 + (nI 1)) a2 a3 a4 D) (fun r2 => (some r2))) else (if (D 19 3) = 0 then (rk 8 a1 (b_BookSearch_give_98 F kS a1 a2 a3 a4 (D 28 (a1).toNatClampNeg) D)) else (b_BookSearch_give_98 F kS a1 a2 a3 a4 (nI 0) D))))) else (if ((sD D 45 0 ((D 45 0) + (nI 1))) 45 7) = (-1 : Int32) then (some (sD (sD D 45 0 ((D 45 0) + (nI 1))) 45 7 a3)) else (some (sD (sD D 45 0 ((D 45 0) + (nI 1))) 45 7 (imn ((sD D 45 0 ((D 45 0) + (nI 1))) 45 7) a3)))))
def g_BookSearch_give (F : Nat) : Nat → Int32 → Int32 → Int32 → Int32 → mx_D → Option (mx_D) := it (fun kS => b_BookSearch_give F kS) (fun _ _ _ _ _ => none)
set_option maxRecDepth 100000 in
set_option maxHeartbeats 4000000 in
theorem tb_BookSearch_give (X : ev_X) (F : Nat) (d : Nat) (hd : 2 ≤ d + 1) (E : mx_E) (kS : Int32 → Int32 → Int32 → Int32 → mx_D → Option (mx_D)) (KS : ∀ (a1 : Int32) (a2 : Int32) (a3 : Int32) (a4 : Int32) (D : mx_D) (v : mx_D), kS a1 a2 a3 a4 D = some v → ev X d 3 (0, [some (.ref 45), some (.int a1), some (.int a2), some (.int a3), some (.int a4), none, none, none, none, none, none, none], [], D, E) (qR none v E)) (a1 : Int32) (a2 : Int32) (a3 : Int32) (a4 : Int32) (D : mx_D) (v : mx_D) (h : b_BookSearch_give F kS a1 a2 a3 a4 D = some v) : ev X (d + 1) 3 (0, [some (.ref 45), some (.int a1), some (.int a2), some (.int a3), some (.int a4), none, none, none, none, none, none, none], [], D, E) (qR none v E) := by
  have hq : kq_m 3 = some kq_q3 := rfl
  unfold b_BookSearch_give at h
  refine gv_n hq 5 (S' := (11, [some (.ref 45), some (.int a1), some (.int a2), some (.int a3), some (.int a4), none, none, none, none, none, none, none], [.int (D 24 6), .int a1], D, E)) rfl ?_
  refine gv_b hq rfl h 49 14 rfl rfl rfl (fun h => ?_) (fun h => ?_)
  · refine gv_n hq 3 (S' := (54, [some (.ref 45), some (.int a1), some (.int a2), some (.int a3), some (.int a4), none, none, none, none, none, none, none], [.int a1, .ref 19], D, E)) rfl ?_
    obtain ⟨r1, h1, h⟩ := Option.bind_eq_some_iff.mp h
    refine gv_d hq rfl rfl rfl rfl rfl (gv_dd (by omega) (t_Church_isSeated X (d - 1) (by omega) D E _ _ h1)) (S' := (57, [some (.ref 45), some (.int a1), some (.int a2), some (.int a3), some (.int a4), none, none, none, none, none, none, none], [.int r1], D, E)) rfl ?_
    refine gv_b hq rfl h 60 72 rfl rfl rfl (fun h => ?_) (fun h => ?_)
    · refine gv_n hq 7 (S' := (68, [some (.ref 45), some (.int a1), some (.int a2), some (.int a3), some (.int a4), none, none, none, none, none, none, none], [.int a4, .int a3, .int a2, .int (a1 + (nI 1)), .ref 45], D, E)) rfl ?_
      obtain ⟨r2, h1, h⟩ := Option.bind_eq_some_iff.mp h
      refine gv_d hq rfl rfl rfl rfl rfl ((KS _ _ _ _ _ _ h1)) (S' := (71, [some (.ref 45), some (.int a1), some (.int a2), some (.int a3), some (.int a4), none, none, none, none, none, none, none], [], r2, E)) rfl ?_
      cases h
      exact ev_ret hq rfl rfl ⟨rfl, rfl, rfl⟩
    · refine gv_n hq 3 (S' := (79, [some (.ref 45), some (.int a1), some (.int a2), some (.int a3), some (.int a4), none, none, none, none, none, none, none], [.int (D 19 3)], D, E)) rfl ?_
      refine gv_b hq rfl h 86 82 rfl rfl rfl (fun h => ?_) (fun h => ?_)
      · refine gv_n hq 5 (S' := (97, [some (.ref 45), some (.int a1), some (.int a2), some (.int a3), some (.int a4), none, none, none, none, none, none, none], [.int a1, .ref 28], D, E)) rfl ?_
        refine gv_ia hq rfl rfl rfl h 98 rfl (fun h => ?_)
        exact gv_w (tb_BookSearch_give_98 X F d hd E kS KS _ _ _ _ _ _ _ h) (And.intro rfl (And.intro rfl (And.intro rfl (And.intro rfl (And.intro rfl trivial)))))
      · refine gv_n hq 2 (S' := (98, [some (.ref 45), some (.int a1), some (.int a2), some (.int a3), some (.int a4), none, none, none, none, none, none, none], [.int (nI 0)], D, E)) rfl ?_
        exact gv_w (tb_BookSearch_give_98 X F d hd E kS KS _ _ _ _ _ _ _ h) (And.intro rfl (And.intro rfl (And.intro rfl (And.intro rfl (And.intro rfl trivial)))))
  · refine gv_n hq 10 (S' := (30, [some (.ref 45), some (.int a1), some (.int a2), some (.int a3), some (.int a4), none, none, none, none, none, none, none], [.int (-1 : Int32), .int ((sD D 45 0 ((D 45 0) + (nI 1))) 45 7), .ref 45], (sD D 45 0 ((D 45 0) + (nI 1))), E)) rfl ?_
    refine gv_b hq rfl h 33 37 rfl rfl rfl (fun h => ?_) (fun h => ?_)
    · refine gv_n hq 3 (S' := (48, [some (.ref 45), some (.int a1), some (.int a2), some (.int a3), some (.int a4), none, none, none, none, none, none, none], [], (sD (sD D 45 0 ((D 45 0) + (nI 1))) 45 7 a3), E)) rfl ?_
      cases h
      exact ev_ret hq rfl rfl ⟨rfl, rfl, rfl⟩
    · refine gv_n hq 5 (S' := (48, [some (.ref 45), some (.int a1), some (.int a2), some (.int a3), some (.int a4), none, none, none, none, none, none, none], [], (sD (sD D 45 0 ((D 45 0) + (nI 1))) 45 7 (imn ((sD D 45 0 ((D 45 0) + (nI 1))) 45 7) a3)), E)) rfl ?_
      cases h
      exact ev_ret hq rfl rfl ⟨rfl, rfl, rfl⟩
set_option maxRecDepth 100000 in
set_option maxHeartbeats 4000000 in
theorem t_BookSearch_give (X : ev_X) (F : Nat) (E : mx_E) : ∀ (n d : Nat), 2 + n ≤ d + 1 → ∀ (a1 : Int32) (a2 : Int32) (a3 : Int32) (a4 : Int32) (D : mx_D) (v : mx_D), g_BookSearch_give F n a1 a2 a3 a4 D = some v → ev X (d + 1) 3 (0, [some (.ref 45), some (.int a1), some (.int a2), some (.int a3), some (.int a4), none, none, none, none, none, none, none], [], D, E) (qR none v E) := by
  intro n
  induction n with
  | zero => intro d hd a1 a2 a3 a4 D v h; cases h
  | succ n ih =>
    intro d hd a1 a2 a3 a4 D v h
    obtain ⟨d, rfl⟩ : ∃ e, d = e + 1 := ⟨d - 1, by omega⟩
    exact tb_BookSearch_give X F (d + 1) (by omega) E (g_BookSearch_give F n) (ih d (by omega)) a1 a2 a3 a4 D v h
