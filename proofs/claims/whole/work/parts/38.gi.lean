/-! ===== pictures of the methods and the rows that tie them to their frames, printed by a program of mine ===== -/
def b_M_digs_43 (F : Nat) (k43 : Int32 → Int32 → Int32 → Int32 → Int32 → mx_D → Option (Int32 × mx_D)) (l2 : Int32) (l3 : Int32) (l4 : Int32) (l5 : Int32) (l6 : Int32) (D : mx_D) : Option (Int32 × mx_D) := (if (nI 60) < l6 then (rk 106 l3 (some (l5, (sD D 117 (l3).toNatClampNeg l4)))) else (if l5 = (-1 : Int32) then (rk 106 l3 (Option.bind (g_M_isLevel F l2 (sD D 117 (l3).toNatClampNeg l6)) (fun r4 => (if r4.1 = 0 then (k43 l2 l3 l4 (-1 : Int32) (l6 + (nI 1)) r4.2) else (k43 l2 l3 l4 l6 (l6 + (nI 1)) r4.2))))) else (rk 106 l3 (some (l5, (sD D 117 (l3).toNatClampNeg l4))))))
set_option maxRecDepth 100000 in
set_option maxHeartbeats 4000000 in
theorem tb_M_digs_43 (X : ev_X) (F : Nat) (d : Nat) (hd : 6 ≤ d + 1) (E : mx_E) (k43 : Int32 → Int32 → Int32 → Int32 → Int32 → mx_D → Option (Int32 × mx_D)) (K43 : ∀ (l2 : Int32) (l3 : Int32) (l4 : Int32) (l5 : Int32) (l6 : Int32) (D : mx_D) (v : Int32 × mx_D), k43 l2 l3 l4 l5 l6 D = some v → ev X (d + 1) 308 (43, [some (.ref 116), none, some (.int l2), some (.int l3), some (.int l4), some (.int l5), some (.int l6)], [], D, E) (qR (some (.int v.1)) v.2 E)) (l2 : Int32) (l3 : Int32) (l4 : Int32) (l5 : Int32) (l6 : Int32) (D : mx_D) (v : Int32 × mx_D) (h : b_M_digs_43 F k43 l2 l3 l4 l5 l6 D = some v) : ev X (d + 1) 308 (43, [some (.ref 116), none, some (.int l2), some (.int l3), some (.int l4), some (.int l5), some (.int l6)], [], D, E) (qR (some (.int v.1)) v.2 E) := by
  have hq : kq_m 308 = some kq_q308 := rfl
  unfold b_M_digs_43 at h
  refine gv_n hq 2 (S' := (47, [some (.ref 116), none, some (.int l2), some (.int l3), some (.int l4), some (.int l5), some (.int l6)], [.int (nI 60), .int l6], D, E)) rfl ?_
  refine gv_b hq rfl h 86 50 rfl rfl rfl (fun h => ?_) (fun h => ?_)
  · refine gv_n hq 4 (S' := (93, [some (.ref 116), none, some (.int l2), some (.int l3), some (.int l4), some (.int l5), some (.int l6)], [.int l4, .int l3, .ref 117], D, E)) rfl ?_
    refine gv_is hq rfl rfl h 94 rfl (fun h => ?_)
    refine gv_n hq 1 (S' := (96, [some (.ref 116), none, some (.int l2), some (.int l3), some (.int l4), some (.int l5), some (.int l6)], [.int l5], (sD D 117 (l3).toNatClampNeg l4), E)) rfl ?_
    cases h
    exact ev_ret hq rfl rfl ⟨rfl, rfl, rfl⟩
  · refine gv_n hq 2 (S' := (53, [some (.ref 116), none, some (.int l2), some (.int l3), some (.int l4), some (.int l5), some (.int l6)], [.int (-1 : Int32), .int l5], D, E)) rfl ?_
    refine gv_b hq rfl h 56 86 rfl rfl rfl (fun h => ?_) (fun h => ?_)
    · refine gv_n hq 4 (S' := (63, [some (.ref 116), none, some (.int l2), some (.int l3), some (.int l4), some (.int l5), some (.int l6)], [.int l6, .int l3, .ref 117], D, E)) rfl ?_
      refine gv_is hq rfl rfl h 64 rfl (fun h => ?_)
      refine gv_n hq 2 (S' := (66, [some (.ref 116), none, some (.int l2), some (.int l3), some (.int l4), some (.int l5), some (.int l6)], [.int l2, .ref 116], (sD D 117 (l3).toNatClampNeg l6), E)) rfl ?_
      obtain ⟨r4, h1, h⟩ := Option.bind_eq_some_iff.mp h
      refine gv_d hq rfl rfl rfl rfl rfl (gv_dd (by omega) (t_M_isLevel X F (d - 1) (by omega) E _ _ _ h1)) (S' := (69, [some (.ref 116), none, some (.int l2), some (.int l3), some (.int l4), some (.int l5), some (.int l6)], [.int r4.1], r4.2, E)) rfl ?_
      refine gv_b hq rfl h 77 72 rfl rfl rfl (fun h => ?_) (fun h => ?_)
      · refine gv_n hq 4 (S' := (43, [some (.ref 116), none, some (.int l2), some (.int l3), some (.int l4), some (.int (-1 : Int32)), some (.int (l6 + (nI 1)))], [], r4.2, E)) rfl ?_
        exact gv_w (K43 _ _ _ _ _ _ _ h) (And.intro rfl (And.intro rfl (And.intro rfl (And.intro rfl (And.intro rfl (And.intro rfl trivial))))))
      · refine gv_n hq 5 (S' := (43, [some (.ref 116), none, some (.int l2), some (.int l3), some (.int l4), some (.int l6), some (.int (l6 + (nI 1)))], [], r4.2, E)) rfl ?_
        exact gv_w (K43 _ _ _ _ _ _ _ h) (And.intro rfl (And.intro rfl (And.intro rfl (And.intro rfl (And.intro rfl (And.intro rfl trivial))))))
    · refine gv_n hq 4 (S' := (93, [some (.ref 116), none, some (.int l2), some (.int l3), some (.int l4), some (.int l5), some (.int l6)], [.int l4, .int l3, .ref 117], D, E)) rfl ?_
      refine gv_is hq rfl rfl h 94 rfl (fun h => ?_)
      refine gv_n hq 1 (S' := (96, [some (.ref 116), none, some (.int l2), some (.int l3), some (.int l4), some (.int l5), some (.int l6)], [.int l5], (sD D 117 (l3).toNatClampNeg l4), E)) rfl ?_
      cases h
      exact ev_ret hq rfl rfl ⟨rfl, rfl, rfl⟩
def g_M_digs_43 (F : Nat) : Nat → Int32 → Int32 → Int32 → Int32 → Int32 → mx_D → Option (Int32 × mx_D) := it (fun k43 => b_M_digs_43 F k43) (fun _ _ _ _ _ _ => none)
set_option maxRecDepth 100000 in
set_option maxHeartbeats 4000000 in
theorem t_M_digs_43 (X : ev_X) (F : Nat) (d : Nat) (hd : 6 ≤ d + 1) (E : mx_E)  : ∀ (n : Nat) (l2 : Int32) (l3 : Int32) (l4 : Int32) (l5 : Int32) (l6 : Int32) (D : mx_D) (v : Int32 × mx_D), g_M_digs_43 F n l2 l3 l4 l5 l6 D = some v → ev X (d + 1) 308 (43, [some (.ref 116), none, some (.int l2), some (.int l3), some (.int l4), some (.int l5), some (.int l6)], [], D, E) (qR (some (.int v.1)) v.2 E) := by
  intro n
  induction n with
  | zero => intro l2 l3 l4 l5 l6 D v h; cases h
  | succ n ih => intro l2 l3 l4 l5 l6 D v h; exact tb_M_digs_43 X F d hd E (g_M_digs_43 F n) ih l2 l3 l4 l5 l6 D v h
def g_M_digs (F : Nat) (a1 : Int32) (a2 : Int32) (D : mx_D) : Option (Int32 × mx_D) := (Option.bind (g_M_isSitter D a1 a2) (fun r1 => (if r1 = 0 then (some ((-2 : Int32), D)) else (Option.bind (g_M_of D a1 (nI 3)) (fun r2 => (Option.bind (g_M_of D a1 (nI 4)) (fun r3 => (rk 106 (g_M_trenchAt r2 r3) (g_M_digs_43 F F a2 (g_M_trenchAt r2 r3) (D 117 ((g_M_trenchAt r2 r3)).toNatClampNeg) (-1 : Int32) (nI 0) D)))))))))
set_option maxRecDepth 100000 in
set_option maxHeartbeats 4000000 in
theorem t_M_digs (X : ev_X) (F : Nat) (d : Nat) (hd : 6 ≤ d + 1) (E : mx_E) (a1 : Int32) (a2 : Int32) (D : mx_D) (v : Int32 × mx_D) (h : g_M_digs F a1 a2 D = some v) : ev X (d + 1) 308 (0, [some (.ref 116), some (.int a1), some (.int a2), none, none, none, none], [], D, E) (qR (some (.int v.1)) v.2 E) := by
  have hq : kq_m 308 = some kq_q308 := rfl
  unfold g_M_digs at h
  refine gv_n hq 3 (S' := (3, [some (.ref 116), some (.int a1), some (.int a2), none, none, none, none], [.int a2, .int a1, .ref 116], D, E)) rfl ?_
  obtain ⟨r1, h1, h⟩ := Option.bind_eq_some_iff.mp h
  refine gv_d hq rfl rfl rfl rfl rfl (gv_dd (by omega) (t_M_isSitter X (d - 1) (by omega) D E _ _ _ h1)) (S' := (6, [some (.ref 116), some (.int a1), some (.int a2), none, none, none, none], [.int r1], D, E)) rfl ?_
  refine gv_b hq rfl h 9 12 rfl rfl rfl (fun h => ?_) (fun h => ?_)
  · refine gv_n hq 1 (S' := (11, [some (.ref 116), some (.int a1), some (.int a2), none, none, none, none], [.int (-2 : Int32)], D, E)) rfl ?_
    cases h
    exact ev_ret hq rfl rfl ⟨rfl, rfl, rfl⟩
  · refine gv_n hq 4 (S' := (16, [some (.ref 116), some (.int a1), some (.int a2), none, none, none, none], [.int (nI 3), .int a1, .ref 116, .ref 116], D, E)) rfl ?_
    obtain ⟨r2, h1, h⟩ := Option.bind_eq_some_iff.mp h
    refine gv_d hq rfl rfl rfl rfl rfl ((t_M_of X d D E _ _ _ h1)) (S' := (19, [some (.ref 116), some (.int a1), some (.int a2), none, none, none, none], [.int r2, .ref 116], D, E)) rfl ?_
    refine gv_n hq 3 (S' := (22, [some (.ref 116), some (.int a1), some (.int a2), none, none, none, none], [.int (nI 4), .int a1, .ref 116, .int r2, .ref 116], D, E)) rfl ?_
    obtain ⟨r3, h1, h⟩ := Option.bind_eq_some_iff.mp h
    refine gv_d hq rfl rfl rfl rfl rfl ((t_M_of X d D E _ _ _ h1)) (S' := (25, [some (.ref 116), some (.int a1), some (.int a2), none, none, none, none], [.int r3, .int r2, .ref 116], D, E)) rfl ?_
    refine gv_d hq rfl rfl rfl rfl rfl ((t_M_trenchAt X d D E _ _ _ rfl)) (S' := (28, [some (.ref 116), some (.int a1), some (.int a2), none, none, none, none], [.int (g_M_trenchAt r2 r3)], D, E)) rfl ?_
    refine gv_n hq 4 (S' := (34, [some (.ref 116), some (.int a1), some (.int a2), some (.int (g_M_trenchAt r2 r3)), none, none, none], [.int (g_M_trenchAt r2 r3), .ref 117], D, E)) rfl ?_
    refine gv_ia hq rfl rfl rfl h 35 rfl (fun h => ?_)
    refine gv_n hq 5 (S' := (43, [some (.ref 116), some (.int a1), some (.int a2), some (.int (g_M_trenchAt r2 r3)), some (.int (D 117 ((g_M_trenchAt r2 r3)).toNatClampNeg)), some (.int (-1 : Int32)), some (.int (nI 0))], [], D, E)) rfl ?_
    exact gv_w (t_M_digs_43 X F d hd E F _ _ _ _ _ _ _ h) (And.intro rfl (And.intro rfl (And.intro rfl (And.intro rfl (And.intro rfl (And.intro rfl trivial))))))
def g_X_law (a1 : Int32) (D : mx_D) : Int32 × mx_D := (if (g_Church_isThere D) = 0 then ((-2 : Int32), D) else (if a1 < 0 then ((-2 : Int32), D) else (if a1 ≤ (nI 30) then ((D 19 2), (sD D 19 2 a1)) else ((-2 : Int32), D))))
set_option maxRecDepth 100000 in
set_option maxHeartbeats 4000000 in
theorem t_X_law (X : ev_X) (d : Nat) (hd : 1 ≤ d + 1) (E : mx_E) (a1 : Int32) (D : mx_D) (v : Int32 × mx_D) (h : g_X_law a1 D = v) : ev X (d + 1) 165 (0, [some (.ref 0), some (.int a1), none], [], D, E) (qR (some (.int v.1)) v.2 E) := by
  have hq : kq_m 165 = some kq_q165 := rfl
  unfold g_X_law at h
  refine gv_n hq 2 (S' := (4, [some (.ref 0), some (.int a1), none], [.ref 19], D, E)) rfl ?_
  refine gv_d hq rfl rfl rfl rfl rfl ((t_Church_isThere X d D E _ rfl)) (S' := (7, [some (.ref 0), some (.int a1), none], [.int (g_Church_isThere D)], D, E)) rfl ?_
  refine gv_b hq rfl h 20 10 rfl rfl rfl (fun h => ?_) (fun h => ?_)
  · refine gv_n hq 1 (S' := (22, [some (.ref 0), some (.int a1), none], [.int (-2 : Int32)], D, E)) rfl ?_
    subst h
    exact ev_ret hq rfl rfl ⟨rfl, rfl, rfl⟩
  · refine gv_n hq 1 (S' := (11, [some (.ref 0), some (.int a1), none], [.int a1], D, E)) rfl ?_
    refine gv_b hq rfl h 20 14 rfl rfl rfl (fun h => ?_) (fun h => ?_)
    · refine gv_n hq 1 (S' := (22, [some (.ref 0), some (.int a1), none], [.int (-2 : Int32)], D, E)) rfl ?_
      subst h
      exact ev_ret hq rfl rfl ⟨rfl, rfl, rfl⟩
    · refine gv_n hq 2 (S' := (17, [some (.ref 0), some (.int a1), none], [.int (nI 30), .int a1], D, E)) rfl ?_
      refine gv_b hq rfl h 23 20 rfl rfl rfl (fun h => ?_) (fun h => ?_)
      · refine gv_n hq 9 (S' := (40, [some (.ref 0), some (.int a1), some (.int (D 19 2))], [.int (D 19 2)], (sD D 19 2 a1), E)) rfl ?_
        subst h
        exact ev_ret hq rfl rfl ⟨rfl, rfl, rfl⟩
      · refine gv_n hq 1 (S' := (22, [some (.ref 0), some (.int a1), none], [.int (-2 : Int32)], D, E)) rfl ?_
        subst h
        exact ev_ret hq rfl rfl ⟨rfl, rfl, rfl⟩
def g_M_law (a1 : Int32) (D : mx_D) : Int32 × mx_D := (if (g_M_isChurch D) = 0 then ((-2 : Int32), D) else (if (g_M_in ((a1).toInt64) (lN 0) (30 : Int64)) = 0 then ((-2 : Int32), D) else ((D 117 2), (sD D 117 2 a1))))
set_option maxRecDepth 100000 in
set_option maxHeartbeats 4000000 in
theorem t_M_law (X : ev_X) (d : Nat) (hd : 1 ≤ d + 1) (E : mx_E) (a1 : Int32) (D : mx_D) (v : Int32 × mx_D) (h : g_M_law a1 D = v) : ev X (d + 1) 309 (0, [some (.ref 116), some (.int a1), none], [], D, E) (qR (some (.int v.1)) v.2 E) := by
  have hq : kq_m 309 = some kq_q309 := rfl
  unfold g_M_law at h
  refine gv_n hq 1 (S' := (1, [some (.ref 116), some (.int a1), none], [.ref 116], D, E)) rfl ?_
  refine gv_d hq rfl rfl rfl rfl rfl ((t_M_isChurch X d D E _ rfl)) (S' := (4, [some (.ref 116), some (.int a1), none], [.int (g_M_isChurch D)], D, E)) rfl ?_
  refine gv_b hq rfl h 19 7 rfl rfl rfl (fun h => ?_) (fun h => ?_)
  · refine gv_n hq 1 (S' := (21, [some (.ref 116), some (.int a1), none], [.int (-2 : Int32)], D, E)) rfl ?_
    subst h
    exact ev_ret hq rfl rfl ⟨rfl, rfl, rfl⟩
  · refine gv_n hq 4 (S' := (13, [some (.ref 116), some (.int a1), none], [.long (30 : Int64), .long (lN 0), .long ((a1).toInt64)], D, E)) rfl ?_
    refine gv_d hq rfl rfl rfl rfl rfl ((t_M_in X d D E _ _ _ _ rfl)) (S' := (16, [some (.ref 116), some (.int a1), none], [.int (g_M_in ((a1).toInt64) (lN 0) (30 : Int64))], D, E)) rfl ?_
    refine gv_b hq rfl h 19 22 rfl rfl rfl (fun h => ?_) (fun h => ?_)
    · refine gv_n hq 1 (S' := (21, [some (.ref 116), some (.int a1), none], [.int (-2 : Int32)], D, E)) rfl ?_
      subst h
      exact ev_ret hq rfl rfl ⟨rfl, rfl, rfl⟩
    · refine gv_n hq 11 (S' := (37, [some (.ref 116), some (.int a1), some (.int (D 117 2))], [.int (D 117 2)], (sD D 117 2 a1), E)) rfl ?_
      subst h
      exact ev_ret hq rfl rfl ⟨rfl, rfl, rfl⟩
def b_X_least_53 (F : Nat) (k53 : Int32 → mx_D → Option (Int32 × mx_D)) (l3 : Int32) (D : mx_D) : Option (Int32 × mx_D) := (if l3 ≤ 0 then (some ((nI 0), D)) else (Option.bind (g_Sawing_begin F D) (fun r3 => (Option.bind (g_Sawing_settle F (r3 34 2) (l3 - (nI 1)) r3) (fun r4 => (if r4.1 = 0 then (some (l3, r4.2)) else (k53 (l3 + (-1 : Int32)) r4.2)))))))
set_option maxRecDepth 100000 in
set_option maxHeartbeats 4000000 in
theorem tb_X_least_53 (X : ev_X) (F : Nat) (d : Nat) (hd : 5 ≤ d + 1) (E : mx_E) (k53 : Int32 → mx_D → Option (Int32 × mx_D)) (K53 : ∀ (l3 : Int32) (D : mx_D) (v : Int32 × mx_D), k53 l3 D = some v → ev X (d + 1) 156 (53, [some (.ref 0), none, none, some (.int l3)], [], D, E) (qR (some (.int v.1)) v.2 E)) (l3 : Int32) (D : mx_D) (v : Int32 × mx_D) (h : b_X_least_53 F k53 l3 D = some v) : ev X (d + 1) 156 (53, [some (.ref 0), none, none, some (.int l3)], [], D, E) (qR (some (.int v.1)) v.2 E) := by
  have hq : kq_m 156 = some kq_q156 := rfl
  unfold b_X_least_53 at h
  refine gv_n hq 1 (S' := (54, [some (.ref 0), none, none, some (.int l3)], [.int l3], D, E)) rfl ?_
  refine gv_b hq rfl h 100 57 rfl rfl rfl (fun h => ?_) (fun h => ?_)
  · refine gv_n hq 1 (S' := (101, [some (.ref 0), none, none, some (.int l3)], [.int (nI 0)], D, E)) rfl ?_
    cases h
    exact ev_ret hq rfl rfl ⟨rfl, rfl, rfl⟩
  · refine gv_n hq 4 (S' := (65, [some (.ref 0), none, none, some (.int l3)], [.ref 19, .ref 37], D, E)) rfl ?_
    obtain ⟨r3, h1, h⟩ := Option.bind_eq_some_iff.mp h
    refine gv_d hq rfl rfl rfl rfl rfl ((t_Sawing_begin X F d E _ _ h1)) (S' := (68, [some (.ref 0), none, none, some (.int l3)], [], r3, E)) rfl ?_
    refine gv_n hq 10 (S' := (86, [some (.ref 0), none, none, some (.int l3)], [.int (l3 - (nI 1)), .int (r3 34 2), .ref 34, .ref 37], r3, E)) rfl ?_
    obtain ⟨r4, h1, h⟩ := Option.bind_eq_some_iff.mp h
    refine gv_d hq rfl rfl rfl rfl rfl (gv_dd (by omega) (t_Sawing_settle X F (d - 1) (by omega) E _ _ _ _ h1)) (S' := (89, [some (.ref 0), none, none, some (.int l3)], [.int r4.1], r4.2, E)) rfl ?_
    refine gv_b hq rfl h 92 94 rfl rfl rfl (fun h => ?_) (fun h => ?_)
    · refine gv_n hq 1 (S' := (93, [some (.ref 0), none, none, some (.int l3)], [.int l3], r4.2, E)) rfl ?_
      cases h
      exact ev_ret hq rfl rfl ⟨rfl, rfl, rfl⟩
    · refine gv_n hq 2 (S' := (53, [some (.ref 0), none, none, some (.int (l3 + (-1 : Int32)))], [], r4.2, E)) rfl ?_
      exact gv_w (K53 _ _ _ h) (And.intro rfl (And.intro rfl trivial))
def g_X_least_53 (F : Nat) : Nat → Int32 → mx_D → Option (Int32 × mx_D) := it (fun k53 => b_X_least_53 F k53) (fun _ _ => none)
set_option maxRecDepth 100000 in
set_option maxHeartbeats 4000000 in
theorem t_X_least_53 (X : ev_X) (F : Nat) (d : Nat) (hd : 5 ≤ d + 1) (E : mx_E)  : ∀ (n : Nat) (l3 : Int32) (D : mx_D) (v : Int32 × mx_D), g_X_least_53 F n l3 D = some v → ev X (d + 1) 156 (53, [some (.ref 0), none, none, some (.int l3)], [], D, E) (qR (some (.int v.1)) v.2 E) := by
  intro n
  induction n with
  | zero => intro l3 D v h; cases h
  | succ n ih => intro l3 D v h; exact tb_X_least_53 X F d hd E (g_X_least_53 F n) ih l3 D v h
def g_X_least (F : Nat) (a1 : Int32) (a2 : Int32) (D : mx_D) : Option (Int32 × mx_D) := (if (g_X_canAsk D a1) = 0 then (some ((-2 : Int32), D)) else (if a2 < 0 then (some ((-2 : Int32), D)) else (if a2 ≤ (nI 1) then (Option.bind (g_Heights_take F a1 D) (fun r1 => (Option.bind (g_Heights_apart F r1 (r1 34 2)) (fun r2 => (if a2 = 0 then (some (r2, r1)) else (g_X_least_53 F F r2 r1)))))) else (some ((-2 : Int32), D)))))
set_option maxRecDepth 100000 in
set_option maxHeartbeats 4000000 in
theorem t_X_least (X : ev_X) (F : Nat) (d : Nat) (hd : 5 ≤ d + 1) (E : mx_E) (a1 : Int32) (a2 : Int32) (D : mx_D) (v : Int32 × mx_D) (h : g_X_least F a1 a2 D = some v) : ev X (d + 1) 156 (0, [some (.ref 0), some (.int a1), some (.int a2), none], [], D, E) (qR (some (.int v.1)) v.2 E) := by
  have hq : kq_m 156 = some kq_q156 := rfl
  unfold g_X_least at h
  refine gv_n hq 2 (S' := (2, [some (.ref 0), some (.int a1), some (.int a2), none], [.int a1, .ref 0], D, E)) rfl ?_
  refine gv_d hq rfl rfl rfl rfl rfl (gv_dd (by omega) (t_X_canAsk X (d - 1) (by omega) D E _ _ rfl)) (S' := (5, [some (.ref 0), some (.int a1), some (.int a2), none], [.int (g_X_canAsk D a1)], D, E)) rfl ?_
  refine gv_b hq rfl h 17 8 rfl rfl rfl (fun h => ?_) (fun h => ?_)
  · refine gv_n hq 1 (S' := (19, [some (.ref 0), some (.int a1), some (.int a2), none], [.int (-2 : Int32)], D, E)) rfl ?_
    cases h
    exact ev_ret hq rfl rfl ⟨rfl, rfl, rfl⟩
  · refine gv_n hq 1 (S' := (9, [some (.ref 0), some (.int a1), some (.int a2), none], [.int a2], D, E)) rfl ?_
    refine gv_b hq rfl h 17 12 rfl rfl rfl (fun h => ?_) (fun h => ?_)
    · refine gv_n hq 1 (S' := (19, [some (.ref 0), some (.int a1), some (.int a2), none], [.int (-2 : Int32)], D, E)) rfl ?_
      cases h
      exact ev_ret hq rfl rfl ⟨rfl, rfl, rfl⟩
    · refine gv_n hq 2 (S' := (14, [some (.ref 0), some (.int a1), some (.int a2), none], [.int (nI 1), .int a2], D, E)) rfl ?_
      refine gv_b hq rfl h 20 17 rfl rfl rfl (fun h => ?_) (fun h => ?_)
      · refine gv_n hq 5 (S' := (29, [some (.ref 0), some (.int a1), some (.int a2), none], [.int a1, .ref 19, .ref 34], D, E)) rfl ?_
        obtain ⟨r1, h1, h⟩ := Option.bind_eq_some_iff.mp h
        refine gv_d hq rfl rfl rfl rfl rfl (gv_dd (by omega) (t_Heights_take X F (d - 1) (by omega) E _ _ _ h1)) (S' := (32, [some (.ref 0), some (.int a1), some (.int a2), none], [], r1, E)) rfl ?_
        refine gv_n hq 5 (S' := (43, [some (.ref 0), some (.int a1), some (.int a2), none], [.int (r1 34 2), .ref 34], r1, E)) rfl ?_
        obtain ⟨r2, h1, h⟩ := Option.bind_eq_some_iff.mp h
        refine gv_d hq rfl rfl rfl rfl rfl (gv_dd (by omega) (t_Heights_apart X F (d - 1) (by omega) r1 E _ _ h1)) (S' := (46, [some (.ref 0), some (.int a1), some (.int a2), none], [.int r2], r1, E)) rfl ?_
        refine gv_n hq 2 (S' := (48, [some (.ref 0), some (.int a1), some (.int a2), some (.int r2)], [.int a2], r1, E)) rfl ?_
        refine gv_b hq rfl h 51 53 rfl rfl rfl (fun h => ?_) (fun h => ?_)
        · refine gv_n hq 1 (S' := (52, [some (.ref 0), some (.int a1), some (.int a2), some (.int r2)], [.int r2], r1, E)) rfl ?_
          cases h
          exact ev_ret hq rfl rfl ⟨rfl, rfl, rfl⟩
        · exact gv_w (t_X_least_53 X F d hd E F _ _ _ h) (And.intro rfl (And.intro rfl trivial))
      · refine gv_n hq 1 (S' := (19, [some (.ref 0), some (.int a1), some (.int a2), none], [.int (-2 : Int32)], D, E)) rfl ?_
        cases h
        exact ev_ret hq rfl rfl ⟨rfl, rfl, rfl⟩
def g_M_least (F : Nat) (a1 : Int32) (a2 : Int32) (D : mx_D) : Option (Int32 × mx_D) := (if (g_M_isYear D a1) = 0 then (some ((-2 : Int32), D)) else (if (g_M_in ((a2).toInt64) (lN 0) (lN 1)) = 0 then (some ((-2 : Int32), D)) else (Option.bind (g_M_lay F a1 D) (fun r1 => (if a2 = 0 then (Option.bind (g_M_sitters F r1) (fun r2 => (Option.bind (g_M_unlevel F r1 r2) (fun r3 => (some (r3, r1)))))) else (Option.bind (g_M_sitters F r1) (fun r4 => (Option.bind (g_M_sawAll F a1 r4 r1) (fun r5 => (some ((r5 116 21), r5)))))))))))
set_option maxRecDepth 100000 in
set_option maxHeartbeats 4000000 in
theorem t_M_least (X : ev_X) (F : Nat) (d : Nat) (hd : 7 ≤ d + 1) (E : mx_E) (a1 : Int32) (a2 : Int32) (D : mx_D) (v : Int32 × mx_D) (h : g_M_least F a1 a2 D = some v) : ev X (d + 1) 310 (0, [some (.ref 116), some (.int a1), some (.int a2)], [], D, E) (qR (some (.int v.1)) v.2 E) := by
  have hq : kq_m 310 = some kq_q310 := rfl
  unfold g_M_least at h
  refine gv_n hq 2 (S' := (2, [some (.ref 116), some (.int a1), some (.int a2)], [.int a1, .ref 116], D, E)) rfl ?_
  refine gv_d hq rfl rfl rfl rfl rfl (gv_dd (by omega) (t_M_isYear X (d - 1) (by omega) D E _ _ rfl)) (S' := (5, [some (.ref 116), some (.int a1), some (.int a2)], [.int (g_M_isYear D a1)], D, E)) rfl ?_
  refine gv_b hq rfl h 18 8 rfl rfl rfl (fun h => ?_) (fun h => ?_)
  · refine gv_n hq 1 (S' := (20, [some (.ref 116), some (.int a1), some (.int a2)], [.int (-2 : Int32)], D, E)) rfl ?_
    cases h
    exact ev_ret hq rfl rfl ⟨rfl, rfl, rfl⟩
  · refine gv_n hq 4 (S' := (12, [some (.ref 116), some (.int a1), some (.int a2)], [.long (lN 1), .long (lN 0), .long ((a2).toInt64)], D, E)) rfl ?_
    refine gv_d hq rfl rfl rfl rfl rfl ((t_M_in X d D E _ _ _ _ rfl)) (S' := (15, [some (.ref 116), some (.int a1), some (.int a2)], [.int (g_M_in ((a2).toInt64) (lN 0) (lN 1))], D, E)) rfl ?_
    refine gv_b hq rfl h 18 21 rfl rfl rfl (fun h => ?_) (fun h => ?_)
    · refine gv_n hq 1 (S' := (20, [some (.ref 116), some (.int a1), some (.int a2)], [.int (-2 : Int32)], D, E)) rfl ?_
      cases h
      exact ev_ret hq rfl rfl ⟨rfl, rfl, rfl⟩
    · refine gv_n hq 2 (S' := (23, [some (.ref 116), some (.int a1), some (.int a2)], [.int a1, .ref 116], D, E)) rfl ?_
      obtain ⟨r1, h1, h⟩ := Option.bind_eq_some_iff.mp h
      refine gv_d hq rfl rfl rfl rfl rfl (gv_dd (by omega) (t_M_lay X F (d - 1) (by omega) E _ _ _ h1)) (S' := (26, [some (.ref 116), some (.int a1), some (.int a2)], [], r1, E)) rfl ?_
      refine gv_n hq 1 (S' := (27, [some (.ref 116), some (.int a1), some (.int a2)], [.int a2], r1, E)) rfl ?_
      refine gv_b hq rfl h 30 39 rfl rfl rfl (fun h => ?_) (fun h => ?_)
      · refine gv_n hq 2 (S' := (32, [some (.ref 116), some (.int a1), some (.int a2)], [.ref 116, .ref 116], r1, E)) rfl ?_
        obtain ⟨r2, h1, h⟩ := Option.bind_eq_some_iff.mp h
        refine gv_d hq rfl rfl rfl rfl rfl (gv_dd (by omega) (t_M_sitters X F (d - 1) (by omega) r1 E _ h1)) (S' := (35, [some (.ref 116), some (.int a1), some (.int a2)], [.int r2, .ref 116], r1, E)) rfl ?_
        obtain ⟨r3, h1, h⟩ := Option.bind_eq_some_iff.mp h
        refine gv_d hq rfl rfl rfl rfl rfl (gv_dd (by omega) (t_M_unlevel X F (d - 1) (by omega) r1 E _ _ h1)) (S' := (38, [some (.ref 116), some (.int a1), some (.int a2)], [.int r3], r1, E)) rfl ?_
        cases h
        exact ev_ret hq rfl rfl ⟨rfl, rfl, rfl⟩
      · refine gv_n hq 3 (S' := (42, [some (.ref 116), some (.int a1), some (.int a2)], [.ref 116, .int a1, .ref 116], r1, E)) rfl ?_
        obtain ⟨r4, h1, h⟩ := Option.bind_eq_some_iff.mp h
        refine gv_d hq rfl rfl rfl rfl rfl (gv_dd (by omega) (t_M_sitters X F (d - 1) (by omega) r1 E _ h1)) (S' := (45, [some (.ref 116), some (.int a1), some (.int a2)], [.int r4, .int a1, .ref 116], r1, E)) rfl ?_
        obtain ⟨r5, h1, h⟩ := Option.bind_eq_some_iff.mp h
        refine gv_d hq rfl rfl rfl rfl rfl (gv_dd (by omega) (t_M_sawAll X F (d - 1) (by omega) E _ _ _ _ h1)) (S' := (48, [some (.ref 116), some (.int a1), some (.int a2)], [], r5, E)) rfl ?_
        refine gv_n hq 2 (S' := (52, [some (.ref 116), some (.int a1), some (.int a2)], [.int (r5 116 21)], r5, E)) rfl ?_
        cases h
        exact ev_ret hq rfl rfl ⟨rfl, rfl, rfl⟩
def g_X_isSlot (a0 : Int32) : Int32 := (if a0 < 0 then (nI 0) else (if (nI 4) ≤ a0 then (nI 0) else (nI 1)))
set_option maxRecDepth 100000 in
set_option maxHeartbeats 4000000 in
theorem t_X_isSlot (X : ev_X) (d : Nat) (D : mx_D) (E : mx_E) (a0 : Int32) (v : Int32) (h : g_X_isSlot a0 = v) : ev X d 168 (0, [some (.int a0)], [], D, E) (qR (some (.int v)) D E) := by
  have hq : kq_m 168 = some kq_q168 := rfl
  unfold g_X_isSlot at h
  refine gv_n hq 1 (S' := (1, [some (.int a0)], [.int a0], D, E)) rfl ?_
  refine gv_b hq rfl h 13 4 rfl rfl rfl (fun h => ?_) (fun h => ?_)
  · refine gv_n hq 1 (S' := (14, [some (.int a0)], [.int (nI 0)], D, E)) rfl ?_
    subst h
    exact ev_ret hq rfl rfl ⟨rfl, rfl, rfl⟩
  · refine gv_n hq 2 (S' := (6, [some (.int a0)], [.int (nI 4), .int a0], D, E)) rfl ?_
    refine gv_b hq rfl h 13 9 rfl rfl rfl (fun h => ?_) (fun h => ?_)
    · refine gv_n hq 1 (S' := (14, [some (.int a0)], [.int (nI 0)], D, E)) rfl ?_
      subst h
      exact ev_ret hq rfl rfl ⟨rfl, rfl, rfl⟩
    · refine gv_n hq 2 (S' := (14, [some (.int a0)], [.int (nI 1)], D, E)) rfl ?_
      subst h
      exact ev_ret hq rfl rfl ⟨rfl, rfl, rfl⟩
theorem z_X_isSlot (a0 : Int32) : g_X_isSlot a0 = 0 ∨ g_X_isSlot a0 = 1 := by
  unfold g_X_isSlot
  (repeat' split) <;> first | exact Or.inl rfl | exact Or.inr rfl
def g_Sightings_isPlace_108 (D : mx_D) (E : mx_E) (a2 : Int32) : Option (Int32) := (rk 60 ((nI 3) * a2) (rk 60 (((nI 3) * a2) + (nI 1)) (if (lg_cmp (E 109 (((nI 3) * a2)).toNatClampNeg) (lN 0)) < 0 then (some (nI 0)) else (if 0 ≤ (lg_cmp (E 109 (((nI 3) * a2)).toNatClampNeg) (((D 19 0)).toInt64)) then (some (nI 0)) else (if (lg_cmp (E 109 ((((nI 3) * a2) + (nI 1))).toNatClampNeg) (lN 0)) < 0 then (some (nI 0)) else (if 0 ≤ (lg_cmp (E 109 ((((nI 3) * a2) + (nI 1))).toNatClampNeg) (((D 19 1)).toInt64)) then (some (nI 0)) else (some (nI 1))))))))
set_option maxRecDepth 100000 in
set_option maxHeartbeats 4000000 in
theorem t_Sightings_isPlace_108 (X : ev_X) (d : Nat) (D : mx_D) (E : mx_E) (a2 : Int32) (v : Int32) (h : g_Sightings_isPlace_108 D E a2 = some v) : ev X d 93 (0, [some (.ref 108), some (.ref 19), some (.int a2), none, none, none, none], [], D, E) (qR (some (.int v)) D E) := by
  have hq : kq_m 93 = some kq_q93 := rfl
  unfold g_Sightings_isPlace_108 at h
  refine gv_n hq 5 (S' := (7, [some (.ref 108), some (.ref 19), some (.int a2), none, none, none, none], [.int ((nI 3) * a2), .ref 109], D, E)) rfl ?_
  refine gv_la hq rfl rfl h 8 rfl (fun h => ?_)
  refine gv_n hq 8 (S' := (18, [some (.ref 108), some (.ref 19), some (.int a2), some (.long (E 109 (((nI 3) * a2)).toNatClampNeg)), none, none, none], [.int (((nI 3) * a2) + (nI 1)), .ref 109], D, E)) rfl ?_
  refine gv_la hq rfl rfl h 19 rfl (fun h => ?_)
  refine gv_n hq 4 (S' := (24, [some (.ref 108), some (.ref 19), some (.int a2), some (.long (E 109 (((nI 3) * a2)).toNatClampNeg)), none, some (.long (E 109 ((((nI 3) * a2) + (nI 1))).toNatClampNeg)), none], [.int (lg_cmp (E 109 (((nI 3) * a2)).toNatClampNeg) (lN 0))], D, E)) rfl ?_
  refine gv_b hq rfl h 59 27 rfl rfl rfl (fun h => ?_) (fun h => ?_)
  · refine gv_n hq 1 (S' := (60, [some (.ref 108), some (.ref 19), some (.int a2), some (.long (E 109 (((nI 3) * a2)).toNatClampNeg)), none, some (.long (E 109 ((((nI 3) * a2) + (nI 1))).toNatClampNeg)), none], [.int (nI 0)], D, E)) rfl ?_
    cases h
    exact ev_ret hq rfl rfl ⟨rfl, rfl, rfl⟩
  · refine gv_n hq 5 (S' := (34, [some (.ref 108), some (.ref 19), some (.int a2), some (.long (E 109 (((nI 3) * a2)).toNatClampNeg)), none, some (.long (E 109 ((((nI 3) * a2) + (nI 1))).toNatClampNeg)), none], [.int (lg_cmp (E 109 (((nI 3) * a2)).toNatClampNeg) (((D 19 0)).toInt64))], D, E)) rfl ?_
    refine gv_b hq rfl h 59 37 rfl rfl rfl (fun h => ?_) (fun h => ?_)
    · refine gv_n hq 1 (S' := (60, [some (.ref 108), some (.ref 19), some (.int a2), some (.long (E 109 (((nI 3) * a2)).toNatClampNeg)), none, some (.long (E 109 ((((nI 3) * a2) + (nI 1))).toNatClampNeg)), none], [.int (nI 0)], D, E)) rfl ?_
      cases h
      exact ev_ret hq rfl rfl ⟨rfl, rfl, rfl⟩
    · refine gv_n hq 3 (S' := (41, [some (.ref 108), some (.ref 19), some (.int a2), some (.long (E 109 (((nI 3) * a2)).toNatClampNeg)), none, some (.long (E 109 ((((nI 3) * a2) + (nI 1))).toNatClampNeg)), none], [.int (lg_cmp (E 109 ((((nI 3) * a2) + (nI 1))).toNatClampNeg) (lN 0))], D, E)) rfl ?_
      refine gv_b hq rfl h 59 44 rfl rfl rfl (fun h => ?_) (fun h => ?_)
      · refine gv_n hq 1 (S' := (60, [some (.ref 108), some (.ref 19), some (.int a2), some (.long (E 109 (((nI 3) * a2)).toNatClampNeg)), none, some (.long (E 109 ((((nI 3) * a2) + (nI 1))).toNatClampNeg)), none], [.int (nI 0)], D, E)) rfl ?_
        cases h
        exact ev_ret hq rfl rfl ⟨rfl, rfl, rfl⟩
      · refine gv_n hq 5 (S' := (52, [some (.ref 108), some (.ref 19), some (.int a2), some (.long (E 109 (((nI 3) * a2)).toNatClampNeg)), none, some (.long (E 109 ((((nI 3) * a2) + (nI 1))).toNatClampNeg)), none], [.int (lg_cmp (E 109 ((((nI 3) * a2) + (nI 1))).toNatClampNeg) (((D 19 1)).toInt64))], D, E)) rfl ?_
        refine gv_b hq rfl h 59 55 rfl rfl rfl (fun h => ?_) (fun h => ?_)
        · refine gv_n hq 1 (S' := (60, [some (.ref 108), some (.ref 19), some (.int a2), some (.long (E 109 (((nI 3) * a2)).toNatClampNeg)), none, some (.long (E 109 ((((nI 3) * a2) + (nI 1))).toNatClampNeg)), none], [.int (nI 0)], D, E)) rfl ?_
          cases h
          exact ev_ret hq rfl rfl ⟨rfl, rfl, rfl⟩
        · refine gv_n hq 2 (S' := (60, [some (.ref 108), some (.ref 19), some (.int a2), some (.long (E 109 (((nI 3) * a2)).toNatClampNeg)), none, some (.long (E 109 ((((nI 3) * a2) + (nI 1))).toNatClampNeg)), none], [.int (nI 1)], D, E)) rfl ?_
          cases h
          exact ev_ret hq rfl rfl ⟨rfl, rfl, rfl⟩
def g_Sightings_pewOf_108 (E : mx_E) (a1 : Int32) : Option (Int32) := (rk 60 ((nI 3) * a1) (some (((E 109 (((nI 3) * a1)).toNatClampNeg)).toInt32)))
set_option maxRecDepth 100000 in
set_option maxHeartbeats 4000000 in
theorem t_Sightings_pewOf_108 (X : ev_X) (d : Nat) (D : mx_D) (E : mx_E) (a1 : Int32) (v : Int32) (h : g_Sightings_pewOf_108 E a1 = some v) : ev X d 94 (0, [some (.ref 108), some (.int a1)], [], D, E) (qR (some (.int v)) D E) := by
  have hq : kq_m 94 = some kq_q94 := rfl
  unfold g_Sightings_pewOf_108 at h
  refine gv_n hq 5 (S' := (7, [some (.ref 108), some (.int a1)], [.int ((nI 3) * a1), .ref 109], D, E)) rfl ?_
  refine gv_la hq rfl rfl h 8 rfl (fun h => ?_)
  refine gv_n hq 1 (S' := (9, [some (.ref 108), some (.int a1)], [.int (((E 109 (((nI 3) * a1)).toNatClampNeg)).toInt32)], D, E)) rfl ?_
  cases h
  exact ev_ret hq rfl rfl ⟨rfl, rfl, rfl⟩
def g_Sightings_placeOf_108 (E : mx_E) (a1 : Int32) : Option (Int32) := (rk 60 (((nI 3) * a1) + (nI 1)) (some (((E 109 ((((nI 3) * a1) + (nI 1))).toNatClampNeg)).toInt32)))
set_option maxRecDepth 100000 in
set_option maxHeartbeats 4000000 in
theorem t_Sightings_placeOf_108 (X : ev_X) (d : Nat) (D : mx_D) (E : mx_E) (a1 : Int32) (v : Int32) (h : g_Sightings_placeOf_108 E a1 = some v) : ev X d 95 (0, [some (.ref 108), some (.int a1)], [], D, E) (qR (some (.int v)) D E) := by
  have hq : kq_m 95 = some kq_q95 := rfl
  unfold g_Sightings_placeOf_108 at h
  refine gv_n hq 7 (S' := (9, [some (.ref 108), some (.int a1)], [.int (((nI 3) * a1) + (nI 1)), .ref 109], D, E)) rfl ?_
  refine gv_la hq rfl rfl h 10 rfl (fun h => ?_)
  refine gv_n hq 1 (S' := (11, [some (.ref 108), some (.int a1)], [.int (((E 109 ((((nI 3) * a1) + (nI 1))).toNatClampNeg)).toInt32)], D, E)) rfl ?_
  cases h
  exact ev_ret hq rfl rfl ⟨rfl, rfl, rfl⟩
def b_Sightings_fitting_108_22 (F : Nat) (D : mx_D) (E : mx_E) (k22 : Int32 → Int32 → Int32 → Int32 → Int32 → Option (Int32)) (l2 : Int32) (l3 : Int32) (l4 : Int32) (l5 : Int32) (l6 : Int32) : Option (Int32) := (if (D 24 6) ≤ l6 then (some l5) else (Option.bind (g_Church_standingHigh F D l6 l2) (fun r4 => (rk 60 (((nI 3) * l3) + (nI 2)) (if (lg_cmp (((r4 + l4)).toInt64) (E 109 ((((nI 3) * l3) + (nI 2))).toNatClampNeg)) = 0 then (k22 l2 l3 l4 (l5 ||| ((nI 1) <<< (l6 &&& 31))) (l6 + (nI 1))) else (k22 l2 l3 l4 l5 (l6 + (nI 1))))))))
set_option maxRecDepth 100000 in
set_option maxHeartbeats 4000000 in
theorem tb_Sightings_fitting_108_22 (X : ev_X) (F : Nat) (d : Nat) (hd : 3 ≤ d + 1) (D : mx_D) (E : mx_E) (k22 : Int32 → Int32 → Int32 → Int32 → Int32 → Option (Int32)) (K22 : ∀ (l2 : Int32) (l3 : Int32) (l4 : Int32) (l5 : Int32) (l6 : Int32) (v : Int32), k22 l2 l3 l4 l5 l6 = some v → ev X (d + 1) 96 (22, [some (.ref 108), some (.ref 19), some (.int l2), some (.int l3), some (.int l4), some (.int l5), some (.int l6)], [], D, E) (qR (some (.int v)) D E)) (l2 : Int32) (l3 : Int32) (l4 : Int32) (l5 : Int32) (l6 : Int32) (v : Int32) (h : b_Sightings_fitting_108_22 F D E k22 l2 l3 l4 l5 l6 = some v) : ev X (d + 1) 96 (22, [some (.ref 108), some (.ref 19), some (.int l2), some (.int l3), some (.int l4), some (.int l5), some (.int l6)], [], D, E) (qR (some (.int v)) D E) := by
  have hq : kq_m 96 = some kq_q96 := rfl
  unfold b_Sightings_fitting_108_22 at h
  refine gv_n hq 4 (S' := (31, [some (.ref 108), some (.ref 19), some (.int l2), some (.int l3), some (.int l4), some (.int l5), some (.int l6)], [.int (D 24 6), .int l6], D, E)) rfl ?_
  refine gv_b hq rfl h 74 34 rfl rfl rfl (fun h => ?_) (fun h => ?_)
  · refine gv_n hq 1 (S' := (76, [some (.ref 108), some (.ref 19), some (.int l2), some (.int l3), some (.int l4), some (.int l5), some (.int l6)], [.int l5], D, E)) rfl ?_
    cases h
    exact ev_ret hq rfl rfl ⟨rfl, rfl, rfl⟩
  · refine gv_n hq 3 (S' := (38, [some (.ref 108), some (.ref 19), some (.int l2), some (.int l3), some (.int l4), some (.int l5), some (.int l6)], [.int l2, .int l6, .ref 19], D, E)) rfl ?_
    obtain ⟨r4, h1, h⟩ := Option.bind_eq_some_iff.mp h
    refine gv_d hq rfl rfl rfl rfl rfl (gv_dd (by omega) (t_Church_standingHigh X F (d - 1) (by omega) D E _ _ _ h1)) (S' := (41, [some (.ref 108), some (.ref 19), some (.int l2), some (.int l3), some (.int l4), some (.int l5), some (.int l6)], [.int r4], D, E)) rfl ?_
    refine gv_n hq 10 (S' := (54, [some (.ref 108), some (.ref 19), some (.int l2), some (.int l3), some (.int l4), some (.int l5), some (.int l6)], [.int (((nI 3) * l3) + (nI 2)), .ref 109, .long (((r4 + l4)).toInt64)], D, E)) rfl ?_
    refine gv_la hq rfl rfl h 55 rfl (fun h => ?_)
    refine gv_n hq 1 (S' := (56, [some (.ref 108), some (.ref 19), some (.int l2), some (.int l3), some (.int l4), some (.int l5), some (.int l6)], [.int (lg_cmp (((r4 + l4)).toInt64) (E 109 ((((nI 3) * l3) + (nI 2))).toNatClampNeg))], D, E)) rfl ?_
    refine gv_b hq rfl h 59 68 rfl rfl rfl (fun h => ?_) (fun h => ?_)
    · refine gv_n hq 8 (S' := (22, [some (.ref 108), some (.ref 19), some (.int l2), some (.int l3), some (.int l4), some (.int (l5 ||| ((nI 1) <<< (l6 &&& 31)))), some (.int (l6 + (nI 1)))], [], D, E)) rfl ?_
      exact gv_w (K22 _ _ _ _ _ _ h) (And.intro rfl (And.intro rfl (And.intro rfl (And.intro rfl (And.intro rfl (And.intro rfl (And.intro rfl trivial)))))))
    · refine gv_n hq 2 (S' := (22, [some (.ref 108), some (.ref 19), some (.int l2), some (.int l3), some (.int l4), some (.int l5), some (.int (l6 + (nI 1)))], [], D, E)) rfl ?_
      exact gv_w (K22 _ _ _ _ _ _ h) (And.intro rfl (And.intro rfl (And.intro rfl (And.intro rfl (And.intro rfl (And.intro rfl (And.intro rfl trivial)))))))
def g_Sightings_fitting_108_22 (F : Nat) (D : mx_D) (E : mx_E) : Nat → Int32 → Int32 → Int32 → Int32 → Int32 → Option (Int32) := it (fun k22 => b_Sightings_fitting_108_22 F D E k22) (fun _ _ _ _ _ => none)
set_option maxRecDepth 100000 in
set_option maxHeartbeats 4000000 in
theorem t_Sightings_fitting_108_22 (X : ev_X) (F : Nat) (d : Nat) (hd : 3 ≤ d + 1) (D : mx_D) (E : mx_E)  : ∀ (n : Nat) (l2 : Int32) (l3 : Int32) (l4 : Int32) (l5 : Int32) (l6 : Int32) (v : Int32), g_Sightings_fitting_108_22 F D E n l2 l3 l4 l5 l6 = some v → ev X (d + 1) 96 (22, [some (.ref 108), some (.ref 19), some (.int l2), some (.int l3), some (.int l4), some (.int l5), some (.int l6)], [], D, E) (qR (some (.int v)) D E) := by
  intro n
  induction n with
  | zero => intro l2 l3 l4 l5 l6 v h; cases h
  | succ n ih => intro l2 l3 l4 l5 l6 v h; exact tb_Sightings_fitting_108_22 X F d hd D E (g_Sightings_fitting_108_22 F D E n) ih l2 l3 l4 l5 l6 v h
def g_Sightings_fitting_108 (F : Nat) (D : mx_D) (E : mx_E) (a2 : Int32) (a3 : Int32) : Option (Int32) := (Option.bind (g_Sightings_pewOf_108 E a3) (fun r1 => (Option.bind (g_Sightings_placeOf_108 E a3) (fun r2 => (Option.bind (g_Church_floorAt D r1 r2) (fun r3 => (g_Sightings_fitting_108_22 F D E F a2 a3 r3 (nI 0) (nI 0))))))))
set_option maxRecDepth 100000 in
set_option maxHeartbeats 4000000 in
theorem t_Sightings_fitting_108 (X : ev_X) (F : Nat) (d : Nat) (hd : 3 ≤ d + 1) (D : mx_D) (E : mx_E) (a2 : Int32) (a3 : Int32) (v : Int32) (h : g_Sightings_fitting_108 F D E a2 a3 = some v) : ev X (d + 1) 96 (0, [some (.ref 108), some (.ref 19), some (.int a2), some (.int a3), none, none, none], [], D, E) (qR (some (.int v)) D E) := by
  have hq : kq_m 96 = some kq_q96 := rfl
  unfold g_Sightings_fitting_108 at h
  refine gv_n hq 3 (S' := (3, [some (.ref 108), some (.ref 19), some (.int a2), some (.int a3), none, none, none], [.int a3, .ref 108, .ref 19], D, E)) rfl ?_
  obtain ⟨r1, h1, h⟩ := Option.bind_eq_some_iff.mp h
  refine gv_d hq rfl rfl rfl rfl rfl ((t_Sightings_pewOf_108 X d D E _ _ h1)) (S' := (6, [some (.ref 108), some (.ref 19), some (.int a2), some (.int a3), none, none, none], [.int r1, .ref 19], D, E)) rfl ?_
  refine gv_n hq 2 (S' := (8, [some (.ref 108), some (.ref 19), some (.int a2), some (.int a3), none, none, none], [.int a3, .ref 108, .int r1, .ref 19], D, E)) rfl ?_
  obtain ⟨r2, h1, h⟩ := Option.bind_eq_some_iff.mp h
  refine gv_d hq rfl rfl rfl rfl rfl ((t_Sightings_placeOf_108 X d D E _ _ h1)) (S' := (11, [some (.ref 108), some (.ref 19), some (.int a2), some (.int a3), none, none, none], [.int r2, .int r1, .ref 19], D, E)) rfl ?_
  obtain ⟨r3, h1, h⟩ := Option.bind_eq_some_iff.mp h
  refine gv_d hq rfl rfl rfl rfl rfl (gv_dd (by omega) (t_Church_floorAt X (d - 1) (by omega) D E _ _ _ h1)) (S' := (14, [some (.ref 108), some (.ref 19), some (.int a2), some (.int a3), none, none, none], [.int r3], D, E)) rfl ?_
  refine gv_n hq 5 (S' := (22, [some (.ref 108), some (.ref 19), some (.int a2), some (.int a3), some (.int r3), some (.int (nI 0)), some (.int (nI 0))], [], D, E)) rfl ?_
  exact gv_w (t_Sightings_fitting_108_22 X F d hd D E F _ _ _ _ _ _ h) (And.intro rfl (And.intro rfl (And.intro rfl (And.intro rfl (And.intro rfl (And.intro rfl (And.intro rfl trivial)))))))
def b_Sightings_take_108_38 (F : Nat) (E : mx_E) (k38 : Int32 → Int32 → Int32 → mx_D → Option (Int32 × mx_D)) (l3 : Int32) (l4 : Int32) (l5 : Int32) (D : mx_D) : Option (Int32 × mx_D) := (if (D 57 0) ≤ l5 then (some ((nI 1), D)) else (Option.bind (g_Sightings_isPlace_108 D E l5) (fun r1 => (if r1 = 0 then (some ((nI 0), D)) else (Option.bind (g_Sightings_pewOf_108 E l5) (fun r2 => (Option.bind (g_Sightings_placeOf_108 E l5) (fun r3 => (if (l4 &&& ((nI 1) <<< (((r2 * (nI 5)) + r3) &&& 31))) = 0 then (if (nI 8) ≤ l5 then (k38 l3 (l4 ||| ((nI 1) <<< (((r2 * (nI 5)) + r3) &&& 31))) (l5 + (nI 1)) D) else (Option.bind (g_Sightings_fitting_108 F D E l3 l5) (fun r4 => (rk 8 l5 (k38 l3 (l4 ||| ((nI 1) <<< (((r2 * (nI 5)) + r3) &&& 31))) (l5 + (nI 1)) (sD D 58 (l5).toNatClampNeg r4)))))) else (some ((nI 0), D)))))))))))
set_option maxRecDepth 100000 in
set_option maxHeartbeats 4000000 in
theorem tb_Sightings_take_108_38 (X : ev_X) (F : Nat) (d : Nat) (hd : 4 ≤ d + 1) (E : mx_E) (k38 : Int32 → Int32 → Int32 → mx_D → Option (Int32 × mx_D)) (K38 : ∀ (l3 : Int32) (l4 : Int32) (l5 : Int32) (D : mx_D) (v : Int32 × mx_D), k38 l3 l4 l5 D = some v → ev X (d + 1) 92 (38, [some (.ref 57), some (.ref 108), some (.ref 19), some (.int l3), some (.int l4), some (.int l5), none], [], D, E) (qR (some (.int v.1)) v.2 E)) (l3 : Int32) (l4 : Int32) (l5 : Int32) (D : mx_D) (v : Int32 × mx_D) (h : b_Sightings_take_108_38 F E k38 l3 l4 l5 D = some v) : ev X (d + 1) 92 (38, [some (.ref 57), some (.ref 108), some (.ref 19), some (.int l3), some (.int l4), some (.int l5), none], [], D, E) (qR (some (.int v.1)) v.2 E) := by
  have hq : kq_m 92 = some kq_q92 := rfl
  unfold b_Sightings_take_108_38 at h
  refine gv_n hq 3 (S' := (44, [some (.ref 57), some (.ref 108), some (.ref 19), some (.int l3), some (.int l4), some (.int l5), none], [.int (D 57 0), .int l5], D, E)) rfl ?_
  refine gv_b hq rfl h 123 47 rfl rfl rfl (fun h => ?_) (fun h => ?_)
  · refine gv_n hq 1 (S' := (124, [some (.ref 57), some (.ref 108), some (.ref 19), some (.int l3), some (.int l4), some (.int l5), none], [.int (nI 1)], D, E)) rfl ?_
    cases h
    exact ev_ret hq rfl rfl ⟨rfl, rfl, rfl⟩
  · refine gv_n hq 3 (S' := (51, [some (.ref 57), some (.ref 108), some (.ref 19), some (.int l3), some (.int l4), some (.int l5), none], [.int l5, .ref 19, .ref 108], D, E)) rfl ?_
    obtain ⟨r1, h1, h⟩ := Option.bind_eq_some_iff.mp h
    refine gv_d hq rfl rfl rfl rfl rfl ((t_Sightings_isPlace_108 X d D E _ _ h1)) (S' := (54, [some (.ref 57), some (.ref 108), some (.ref 19), some (.int l3), some (.int l4), some (.int l5), none], [.int r1], D, E)) rfl ?_
    refine gv_b hq rfl h 57 59 rfl rfl rfl (fun h => ?_) (fun h => ?_)
    · refine gv_n hq 1 (S' := (58, [some (.ref 57), some (.ref 108), some (.ref 19), some (.int l3), some (.int l4), some (.int l5), none], [.int (nI 0)], D, E)) rfl ?_
      cases h
      exact ev_ret hq rfl rfl ⟨rfl, rfl, rfl⟩
    · refine gv_n hq 3 (S' := (63, [some (.ref 57), some (.ref 108), some (.ref 19), some (.int l3), some (.int l4), some (.int l5), none], [.int l5, .ref 108, .int (nI 1)], D, E)) rfl ?_
      obtain ⟨r2, h1, h⟩ := Option.bind_eq_some_iff.mp h
      refine gv_d hq rfl rfl rfl rfl rfl ((t_Sightings_pewOf_108 X d D E _ _ h1)) (S' := (66, [some (.ref 57), some (.ref 108), some (.ref 19), some (.int l3), some (.int l4), some (.int l5), none], [.int r2, .int (nI 1)], D, E)) rfl ?_
      refine gv_n hq 4 (S' := (71, [some (.ref 57), some (.ref 108), some (.ref 19), some (.int l3), some (.int l4), some (.int l5), none], [.int l5, .ref 108, .int (r2 * (nI 5)), .int (nI 1)], D, E)) rfl ?_
      obtain ⟨r3, h1, h⟩ := Option.bind_eq_some_iff.mp h
      refine gv_d hq rfl rfl rfl rfl rfl ((t_Sightings_placeOf_108 X d D E _ _ h1)) (S' := (74, [some (.ref 57), some (.ref 108), some (.ref 19), some (.int l3), some (.int l4), some (.int l5), none], [.int r3, .int (r2 * (nI 5)), .int (nI 1)], D, E)) rfl ?_
      refine gv_n hq 6 (S' := (83, [some (.ref 57), some (.ref 108), some (.ref 19), some (.int l3), some (.int l4), some (.int l5), some (.int ((nI 1) <<< (((r2 * (nI 5)) + r3) &&& 31)))], [.int (l4 &&& ((nI 1) <<< (((r2 * (nI 5)) + r3) &&& 31)))], D, E)) rfl ?_
      refine gv_b hq rfl h 88 86 rfl rfl rfl (fun h => ?_) (fun h => ?_)
      · refine gv_n hq 6 (S' := (99, [some (.ref 57), some (.ref 108), some (.ref 19), some (.int l3), some (.int (l4 ||| ((nI 1) <<< (((r2 * (nI 5)) + r3) &&& 31)))), some (.int l5), some (.int ((nI 1) <<< (((r2 * (nI 5)) + r3) &&& 31)))], [.int (nI 8), .int l5], D, E)) rfl ?_
        refine gv_b hq rfl h 117 102 rfl rfl rfl (fun h => ?_) (fun h => ?_)
        · refine gv_n hq 2 (S' := (38, [some (.ref 57), some (.ref 108), some (.ref 19), some (.int l3), some (.int (l4 ||| ((nI 1) <<< (((r2 * (nI 5)) + r3) &&& 31)))), some (.int (l5 + (nI 1))), some (.int ((nI 1) <<< (((r2 * (nI 5)) + r3) &&& 31)))], [], D, E)) rfl ?_
          exact gv_w (K38 _ _ _ _ _ h) (And.intro rfl (And.intro rfl (And.intro rfl (And.intro rfl (And.intro rfl (And.intro rfl trivial))))))
        · refine gv_n hq 7 (S' := (113, [some (.ref 57), some (.ref 108), some (.ref 19), some (.int l3), some (.int (l4 ||| ((nI 1) <<< (((r2 * (nI 5)) + r3) &&& 31)))), some (.int l5), some (.int ((nI 1) <<< (((r2 * (nI 5)) + r3) &&& 31)))], [.int l5, .int l3, .ref 19, .ref 108, .int l5, .ref 58], D, E)) rfl ?_
          obtain ⟨r4, h1, h⟩ := Option.bind_eq_some_iff.mp h
          refine gv_d hq rfl rfl rfl rfl rfl (gv_dd (by omega) (t_Sightings_fitting_108 X F (d - 1) (by omega) D E _ _ _ h1)) (S' := (116, [some (.ref 57), some (.ref 108), some (.ref 19), some (.int l3), some (.int (l4 ||| ((nI 1) <<< (((r2 * (nI 5)) + r3) &&& 31)))), some (.int l5), some (.int ((nI 1) <<< (((r2 * (nI 5)) + r3) &&& 31)))], [.int r4, .int l5, .ref 58], D, E)) rfl ?_
          refine gv_is hq rfl rfl h 117 rfl (fun h => ?_)
          refine gv_n hq 2 (S' := (38, [some (.ref 57), some (.ref 108), some (.ref 19), some (.int l3), some (.int (l4 ||| ((nI 1) <<< (((r2 * (nI 5)) + r3) &&& 31)))), some (.int (l5 + (nI 1))), some (.int ((nI 1) <<< (((r2 * (nI 5)) + r3) &&& 31)))], [], (sD D 58 (l5).toNatClampNeg r4), E)) rfl ?_
          exact gv_w (K38 _ _ _ _ _ h) (And.intro rfl (And.intro rfl (And.intro rfl (And.intro rfl (And.intro rfl (And.intro rfl trivial))))))
      · refine gv_n hq 1 (S' := (87, [some (.ref 57), some (.ref 108), some (.ref 19), some (.int l3), some (.int l4), some (.int l5), some (.int ((nI 1) <<< (((r2 * (nI 5)) + r3) &&& 31)))], [.int (nI 0)], D, E)) rfl ?_
        cases h
        exact ev_ret hq rfl rfl ⟨rfl, rfl, rfl⟩
def g_Sightings_take_108_38 (F : Nat) (E : mx_E) : Nat → Int32 → Int32 → Int32 → mx_D → Option (Int32 × mx_D) := it (fun k38 => b_Sightings_take_108_38 F E k38) (fun _ _ _ _ => none)
set_option maxRecDepth 100000 in
set_option maxHeartbeats 4000000 in
theorem t_Sightings_take_108_38 (X : ev_X) (F : Nat) (d : Nat) (hd : 4 ≤ d + 1) (E : mx_E)  : ∀ (n : Nat) (l3 : Int32) (l4 : Int32) (l5 : Int32) (D : mx_D) (v : Int32 × mx_D), g_Sightings_take_108_38 F E n l3 l4 l5 D = some v → ev X (d + 1) 92 (38, [some (.ref 57), some (.ref 108), some (.ref 19), some (.int l3), some (.int l4), some (.int l5), none], [], D, E) (qR (some (.int v.1)) v.2 E) := by
  intro n
  induction n with
  | zero => intro l3 l4 l5 D v h; cases h
  | succ n ih => intro l3 l4 l5 D v h; exact tb_Sightings_take_108_38 X F d hd E (g_Sightings_take_108_38 F E n) ih l3 l4 l5 D v h
def g_Sightings_take_108 (F : Nat) (E : mx_E) (a3 : Int32) (D : mx_D) : Option (Int32 × mx_D) := (if ((D 108 3) - (D 108 3) / (nI 3) * (nI 3)) = 0 then (g_Sightings_take_108_38 F E F a3 (nI 0) (nI 0) (sD (sD D 57 0 ((D 108 3) / (nI 3))) 57 1 ((sD D 57 0 ((D 108 3) / (nI 3))) 24 6))) else (some ((nI 0), D)))
set_option maxRecDepth 100000 in
set_option maxHeartbeats 4000000 in
theorem t_Sightings_take_108 (X : ev_X) (F : Nat) (d : Nat) (hd : 4 ≤ d + 1) (E : mx_E) (a3 : Int32) (D : mx_D) (v : Int32 × mx_D) (h : g_Sightings_take_108 F E a3 D = some v) : ev X (d + 1) 92 (0, [some (.ref 57), some (.ref 108), some (.ref 19), some (.int a3), none, none, none], [], D, E) (qR (some (.int v.1)) v.2 E) := by
  have hq : kq_m 92 = some kq_q92 := rfl
  unfold g_Sightings_take_108 at h
  refine gv_n hq 4 (S' := (6, [some (.ref 57), some (.ref 108), some (.ref 19), some (.int a3), none, none, none], [.int ((D 108 3) - (D 108 3) / (nI 3) * (nI 3))], D, E)) rfl ?_
  refine gv_b hq rfl h 11 9 rfl rfl rfl (fun h => ?_) (fun h => ?_)
  · refine gv_n hq 15 (S' := (38, [some (.ref 57), some (.ref 108), some (.ref 19), some (.int a3), some (.int (nI 0)), some (.int (nI 0)), none], [], (sD (sD D 57 0 ((D 108 3) / (nI 3))) 57 1 ((sD D 57 0 ((D 108 3) / (nI 3))) 24 6)), E)) rfl ?_
    exact gv_w (t_Sightings_take_108_38 X F d hd E F _ _ _ _ _ h) (And.intro rfl (And.intro rfl (And.intro rfl (And.intro rfl (And.intro rfl (And.intro rfl trivial))))))
  · refine gv_n hq 1 (S' := (10, [some (.ref 57), some (.ref 108), some (.ref 19), some (.int a3), none, none, none], [.int (nI 0)], D, E)) rfl ?_
    cases h
    exact ev_ret hq rfl rfl ⟨rfl, rfl, rfl⟩
def g_Sightings_isPlace_110 (D : mx_D) (E : mx_E) (a2 : Int32) : Option (Int32) := (rk 60 ((nI 3) * a2) (rk 60 (((nI 3) * a2) + (nI 1)) (if (lg_cmp (E 111 (((nI 3) * a2)).toNatClampNeg) (lN 0)) < 0 then (some (nI 0)) else (if 0 ≤ (lg_cmp (E 111 (((nI 3) * a2)).toNatClampNeg) (((D 19 0)).toInt64)) then (some (nI 0)) else (if (lg_cmp (E 111 ((((nI 3) * a2) + (nI 1))).toNatClampNeg) (lN 0)) < 0 then (some (nI 0)) else (if 0 ≤ (lg_cmp (E 111 ((((nI 3) * a2) + (nI 1))).toNatClampNeg) (((D 19 1)).toInt64)) then (some (nI 0)) else (some (nI 1))))))))
set_option maxRecDepth 100000 in
set_option maxHeartbeats 4000000 in
theorem t_Sightings_isPlace_110 (X : ev_X) (d : Nat) (D : mx_D) (E : mx_E) (a2 : Int32) (v : Int32) (h : g_Sightings_isPlace_110 D E a2 = some v) : ev X d 93 (0, [some (.ref 110), some (.ref 19), some (.int a2), none, none, none, none], [], D, E) (qR (some (.int v)) D E) := by
  have hq : kq_m 93 = some kq_q93 := rfl
  unfold g_Sightings_isPlace_110 at h
  refine gv_n hq 5 (S' := (7, [some (.ref 110), some (.ref 19), some (.int a2), none, none, none, none], [.int ((nI 3) * a2), .ref 111], D, E)) rfl ?_
  refine gv_la hq rfl rfl h 8 rfl (fun h => ?_)
  refine gv_n hq 8 (S' := (18, [some (.ref 110), some (.ref 19), some (.int a2), some (.long (E 111 (((nI 3) * a2)).toNatClampNeg)), none, none, none], [.int (((nI 3) * a2) + (nI 1)), .ref 111], D, E)) rfl ?_
  refine gv_la hq rfl rfl h 19 rfl (fun h => ?_)
  refine gv_n hq 4 (S' := (24, [some (.ref 110), some (.ref 19), some (.int a2), some (.long (E 111 (((nI 3) * a2)).toNatClampNeg)), none, some (.long (E 111 ((((nI 3) * a2) + (nI 1))).toNatClampNeg)), none], [.int (lg_cmp (E 111 (((nI 3) * a2)).toNatClampNeg) (lN 0))], D, E)) rfl ?_
  refine gv_b hq rfl h 59 27 rfl rfl rfl (fun h => ?_) (fun h => ?_)
  · refine gv_n hq 1 (S' := (60, [some (.ref 110), some (.ref 19), some (.int a2), some (.long (E 111 (((nI 3) * a2)).toNatClampNeg)), none, some (.long (E 111 ((((nI 3) * a2) + (nI 1))).toNatClampNeg)), none], [.int (nI 0)], D, E)) rfl ?_
    cases h
    exact ev_ret hq rfl rfl ⟨rfl, rfl, rfl⟩
  · refine gv_n hq 5 (S' := (34, [some (.ref 110), some (.ref 19), some (.int a2), some (.long (E 111 (((nI 3) * a2)).toNatClampNeg)), none, some (.long (E 111 ((((nI 3) * a2) + (nI 1))).toNatClampNeg)), none], [.int (lg_cmp (E 111 (((nI 3) * a2)).toNatClampNeg) (((D 19 0)).toInt64))], D, E)) rfl ?_
    refine gv_b hq rfl h 59 37 rfl rfl rfl (fun h => ?_) (fun h => ?_)
    · refine gv_n hq 1 (S' := (60, [some (.ref 110), some (.ref 19), some (.int a2), some (.long (E 111 (((nI 3) * a2)).toNatClampNeg)), none, some (.long (E 111 ((((nI 3) * a2) + (nI 1))).toNatClampNeg)), none], [.int (nI 0)], D, E)) rfl ?_
      cases h
      exact ev_ret hq rfl rfl ⟨rfl, rfl, rfl⟩
    · refine gv_n hq 3 (S' := (41, [some (.ref 110), some (.ref 19), some (.int a2), some (.long (E 111 (((nI 3) * a2)).toNatClampNeg)), none, some (.long (E 111 ((((nI 3) * a2) + (nI 1))).toNatClampNeg)), none], [.int (lg_cmp (E 111 ((((nI 3) * a2) + (nI 1))).toNatClampNeg) (lN 0))], D, E)) rfl ?_
      refine gv_b hq rfl h 59 44 rfl rfl rfl (fun h => ?_) (fun h => ?_)
      · refine gv_n hq 1 (S' := (60, [some (.ref 110), some (.ref 19), some (.int a2), some (.long (E 111 (((nI 3) * a2)).toNatClampNeg)), none, some (.long (E 111 ((((nI 3) * a2) + (nI 1))).toNatClampNeg)), none], [.int (nI 0)], D, E)) rfl ?_
        cases h
        exact ev_ret hq rfl rfl ⟨rfl, rfl, rfl⟩
      · refine gv_n hq 5 (S' := (52, [some (.ref 110), some (.ref 19), some (.int a2), some (.long (E 111 (((nI 3) * a2)).toNatClampNeg)), none, some (.long (E 111 ((((nI 3) * a2) + (nI 1))).toNatClampNeg)), none], [.int (lg_cmp (E 111 ((((nI 3) * a2) + (nI 1))).toNatClampNeg) (((D 19 1)).toInt64))], D, E)) rfl ?_
        refine gv_b hq rfl h 59 55 rfl rfl rfl (fun h => ?_) (fun h => ?_)
        · refine gv_n hq 1 (S' := (60, [some (.ref 110), some (.ref 19), some (.int a2), some (.long (E 111 (((nI 3) * a2)).toNatClampNeg)), none, some (.long (E 111 ((((nI 3) * a2) + (nI 1))).toNatClampNeg)), none], [.int (nI 0)], D, E)) rfl ?_
          cases h
          exact ev_ret hq rfl rfl ⟨rfl, rfl, rfl⟩
        · refine gv_n hq 2 (S' := (60, [some (.ref 110), some (.ref 19), some (.int a2), some (.long (E 111 (((nI 3) * a2)).toNatClampNeg)), none, some (.long (E 111 ((((nI 3) * a2) + (nI 1))).toNatClampNeg)), none], [.int (nI 1)], D, E)) rfl ?_
          cases h
          exact ev_ret hq rfl rfl ⟨rfl, rfl, rfl⟩
def g_Sightings_pewOf_110 (E : mx_E) (a1 : Int32) : Option (Int32) := (rk 60 ((nI 3) * a1) (some (((E 111 (((nI 3) * a1)).toNatClampNeg)).toInt32)))
set_option maxRecDepth 100000 in
set_option maxHeartbeats 4000000 in
theorem t_Sightings_pewOf_110 (X : ev_X) (d : Nat) (D : mx_D) (E : mx_E) (a1 : Int32) (v : Int32) (h : g_Sightings_pewOf_110 E a1 = some v) : ev X d 94 (0, [some (.ref 110), some (.int a1)], [], D, E) (qR (some (.int v)) D E) := by
  have hq : kq_m 94 = some kq_q94 := rfl
  unfold g_Sightings_pewOf_110 at h
  refine gv_n hq 5 (S' := (7, [some (.ref 110), some (.int a1)], [.int ((nI 3) * a1), .ref 111], D, E)) rfl ?_
  refine gv_la hq rfl rfl h 8 rfl (fun h => ?_)
  refine gv_n hq 1 (S' := (9, [some (.ref 110), some (.int a1)], [.int (((E 111 (((nI 3) * a1)).toNatClampNeg)).toInt32)], D, E)) rfl ?_
  cases h
  exact ev_ret hq rfl rfl ⟨rfl, rfl, rfl⟩
def g_Sightings_placeOf_110 (E : mx_E) (a1 : Int32) : Option (Int32) := (rk 60 (((nI 3) * a1) + (nI 1)) (some (((E 111 ((((nI 3) * a1) + (nI 1))).toNatClampNeg)).toInt32)))
set_option maxRecDepth 100000 in
set_option maxHeartbeats 4000000 in
theorem t_Sightings_placeOf_110 (X : ev_X) (d : Nat) (D : mx_D) (E : mx_E) (a1 : Int32) (v : Int32) (h : g_Sightings_placeOf_110 E a1 = some v) : ev X d 95 (0, [some (.ref 110), some (.int a1)], [], D, E) (qR (some (.int v)) D E) := by
  have hq : kq_m 95 = some kq_q95 := rfl
  unfold g_Sightings_placeOf_110 at h
  refine gv_n hq 7 (S' := (9, [some (.ref 110), some (.int a1)], [.int (((nI 3) * a1) + (nI 1)), .ref 111], D, E)) rfl ?_
  refine gv_la hq rfl rfl h 10 rfl (fun h => ?_)
  refine gv_n hq 1 (S' := (11, [some (.ref 110), some (.int a1)], [.int (((E 111 ((((nI 3) * a1) + (nI 1))).toNatClampNeg)).toInt32)], D, E)) rfl ?_
  cases h
  exact ev_ret hq rfl rfl ⟨rfl, rfl, rfl⟩
def b_Sightings_fitting_110_22 (F : Nat) (D : mx_D) (E : mx_E) (k22 : Int32 → Int32 → Int32 → Int32 → Int32 → Option (Int32)) (l2 : Int32) (l3 : Int32) (l4 : Int32) (l5 : Int32) (l6 : Int32) : Option (Int32) := (if (D 24 6) ≤ l6 then (some l5) else (Option.bind (g_Church_standingHigh F D l6 l2) (fun r4 => (rk 60 (((nI 3) * l3) + (nI 2)) (if (lg_cmp (((r4 + l4)).toInt64) (E 111 ((((nI 3) * l3) + (nI 2))).toNatClampNeg)) = 0 then (k22 l2 l3 l4 (l5 ||| ((nI 1) <<< (l6 &&& 31))) (l6 + (nI 1))) else (k22 l2 l3 l4 l5 (l6 + (nI 1))))))))
set_option maxRecDepth 100000 in
set_option maxHeartbeats 4000000 in
theorem tb_Sightings_fitting_110_22 (X : ev_X) (F : Nat) (d : Nat) (hd : 3 ≤ d + 1) (D : mx_D) (E : mx_E) (k22 : Int32 → Int32 → Int32 → Int32 → Int32 → Option (Int32)) (K22 : ∀ (l2 : Int32) (l3 : Int32) (l4 : Int32) (l5 : Int32) (l6 : Int32) (v : Int32), k22 l2 l3 l4 l5 l6 = some v → ev X (d + 1) 96 (22, [some (.ref 110), some (.ref 19), some (.int l2), some (.int l3), some (.int l4), some (.int l5), some (.int l6)], [], D, E) (qR (some (.int v)) D E)) (l2 : Int32) (l3 : Int32) (l4 : Int32) (l5 : Int32) (l6 : Int32) (v : Int32) (h : b_Sightings_fitting_110_22 F D E k22 l2 l3 l4 l5 l6 = some v) : ev X (d + 1) 96 (22, [some (.ref 110), some (.ref 19), some (.int l2), some (.int l3), some (.int l4), some (.int l5), some (.int l6)], [], D, E) (qR (some (.int v)) D E) := by
  have hq : kq_m 96 = some kq_q96 := rfl
  unfold b_Sightings_fitting_110_22 at h
  refine gv_n hq 4 (S' := (31, [some (.ref 110), some (.ref 19), some (.int l2), some (.int l3), some (.int l4), some (.int l5), some (.int l6)], [.int (D 24 6), .int l6], D, E)) rfl ?_
  refine gv_b hq rfl h 74 34 rfl rfl rfl (fun h => ?_) (fun h => ?_)
  · refine gv_n hq 1 (S' := (76, [some (.ref 110), some (.ref 19), some (.int l2), some (.int l3), some (.int l4), some (.int l5), some (.int l6)], [.int l5], D, E)) rfl ?_
    cases h
    exact ev_ret hq rfl rfl ⟨rfl, rfl, rfl⟩
  · refine gv_n hq 3 (S' := (38, [some (.ref 110), some (.ref 19), some (.int l2), some (.int l3), some (.int l4), some (.int l5), some (.int l6)], [.int l2, .int l6, .ref 19], D, E)) rfl ?_
    obtain ⟨r4, h1, h⟩ := Option.bind_eq_some_iff.mp h
    refine gv_d hq rfl rfl rfl rfl rfl (gv_dd (by omega) (t_Church_standingHigh X F (d - 1) (by omega) D E _ _ _ h1)) (S' := (41, [some (.ref 110), some (.ref 19), some (.int l2), some (.int l3), some (.int l4), some (.int l5), some (.int l6)], [.int r4], D, E)) rfl ?_
    refine gv_n hq 10 (S' := (54, [some (.ref 110), some (.ref 19), some (.int l2), some (.int l3), some (.int l4), some (.int l5), some (.int l6)], [.int (((nI 3) * l3) + (nI 2)), .ref 111, .long (((r4 + l4)).toInt64)], D, E)) rfl ?_
    refine gv_la hq rfl rfl h 55 rfl (fun h => ?_)
    refine gv_n hq 1 (S' := (56, [some (.ref 110), some (.ref 19), some (.int l2), some (.int l3), some (.int l4), some (.int l5), some (.int l6)], [.int (lg_cmp (((r4 + l4)).toInt64) (E 111 ((((nI 3) * l3) + (nI 2))).toNatClampNeg))], D, E)) rfl ?_
    refine gv_b hq rfl h 59 68 rfl rfl rfl (fun h => ?_) (fun h => ?_)
    · refine gv_n hq 8 (S' := (22, [some (.ref 110), some (.ref 19), some (.int l2), some (.int l3), some (.int l4), some (.int (l5 ||| ((nI 1) <<< (l6 &&& 31)))), some (.int (l6 + (nI 1)))], [], D, E)) rfl ?_
      exact gv_w (K22 _ _ _ _ _ _ h) (And.intro rfl (And.intro rfl (And.intro rfl (And.intro rfl (And.intro rfl (And.intro rfl (And.intro rfl trivial)))))))
    · refine gv_n hq 2 (S' := (22, [some (.ref 110), some (.ref 19), some (.int l2), some (.int l3), some (.int l4), some (.int l5), some (.int (l6 + (nI 1)))], [], D, E)) rfl ?_
      exact gv_w (K22 _ _ _ _ _ _ h) (And.intro rfl (And.intro rfl (And.intro rfl (And.intro rfl (And.intro rfl (And.intro rfl (And.intro rfl trivial)))))))
def g_Sightings_fitting_110_22 (F : Nat) (D : mx_D) (E : mx_E) : Nat → Int32 → Int32 → Int32 → Int32 → Int32 → Option (Int32) := it (fun k22 => b_Sightings_fitting_110_22 F D E k22) (fun _ _ _ _ _ => none)
set_option maxRecDepth 100000 in
set_option maxHeartbeats 4000000 in
theorem t_Sightings_fitting_110_22 (X : ev_X) (F : Nat) (d : Nat) (hd : 3 ≤ d + 1) (D : mx_D) (E : mx_E)  : ∀ (n : Nat) (l2 : Int32) (l3 : Int32) (l4 : Int32) (l5 : Int32) (l6 : Int32) (v : Int32), g_Sightings_fitting_110_22 F D E n l2 l3 l4 l5 l6 = some v → ev X (d + 1) 96 (22, [some (.ref 110), some (.ref 19), some (.int l2), some (.int l3), some (.int l4), some (.int l5), some (.int l6)], [], D, E) (qR (some (.int v)) D E) := by
  intro n
  induction n with
  | zero => intro l2 l3 l4 l5 l6 v h; cases h
  | succ n ih => intro l2 l3 l4 l5 l6 v h; exact tb_Sightings_fitting_110_22 X F d hd D E (g_Sightings_fitting_110_22 F D E n) ih l2 l3 l4 l5 l6 v h
def g_Sightings_fitting_110 (F : Nat) (D : mx_D) (E : mx_E) (a2 : Int32) (a3 : Int32) : Option (Int32) := (Option.bind (g_Sightings_pewOf_110 E a3) (fun r1 => (Option.bind (g_Sightings_placeOf_110 E a3) (fun r2 => (Option.bind (g_Church_floorAt D r1 r2) (fun r3 => (g_Sightings_fitting_110_22 F D E F a2 a3 r3 (nI 0) (nI 0))))))))
set_option maxRecDepth 100000 in
set_option maxHeartbeats 4000000 in
theorem t_Sightings_fitting_110 (X : ev_X) (F : Nat) (d : Nat) (hd : 3 ≤ d + 1) (D : mx_D) (E : mx_E) (a2 : Int32) (a3 : Int32) (v : Int32) (h : g_Sightings_fitting_110 F D E a2 a3 = some v) : ev X (d + 1) 96 (0, [some (.ref 110), some (.ref 19), some (.int a2), some (.int a3), none, none, none], [], D, E) (qR (some (.int v)) D E) := by
  have hq : kq_m 96 = some kq_q96 := rfl
  unfold g_Sightings_fitting_110 at h
  refine gv_n hq 3 (S' := (3, [some (.ref 110), some (.ref 19), some (.int a2), some (.int a3), none, none, none], [.int a3, .ref 110, .ref 19], D, E)) rfl ?_
  obtain ⟨r1, h1, h⟩ := Option.bind_eq_some_iff.mp h
  refine gv_d hq rfl rfl rfl rfl rfl ((t_Sightings_pewOf_110 X d D E _ _ h1)) (S' := (6, [some (.ref 110), some (.ref 19), some (.int a2), some (.int a3), none, none, none], [.int r1, .ref 19], D, E)) rfl ?_
  refine gv_n hq 2 (S' := (8, [some (.ref 110), some (.ref 19), some (.int a2), some (.int a3), none, none, none], [.int a3, .ref 110, .int r1, .ref 19], D, E)) rfl ?_
  obtain ⟨r2, h1, h⟩ := Option.bind_eq_some_iff.mp h
  refine gv_d hq rfl rfl rfl rfl rfl ((t_Sightings_placeOf_110 X d D E _ _ h1)) (S' := (11, [some (.ref 110), some (.ref 19), some (.int a2), some (.int a3), none, none, none], [.int r2, .int r1, .ref 19], D, E)) rfl ?_
  obtain ⟨r3, h1, h⟩ := Option.bind_eq_some_iff.mp h
  refine gv_d hq rfl rfl rfl rfl rfl (gv_dd (by omega) (t_Church_floorAt X (d - 1) (by omega) D E _ _ _ h1)) (S' := (14, [some (.ref 110), some (.ref 19), some (.int a2), some (.int a3), none, none, none], [.int r3], D, E)) rfl ?_
  refine gv_n hq 5 (S' := (22, [some (.ref 110), some (.ref 19), some (.int a2), some (.int a3), some (.int r3), some (.int (nI 0)), some (.int (nI 0))], [], D, E)) rfl ?_
  exact gv_w (t_Sightings_fitting_110_22 X F d hd D E F _ _ _ _ _ _ h) (And.intro rfl (And.intro rfl (And.intro rfl (And.intro rfl (And.intro rfl (And.intro rfl (And.intro rfl trivial)))))))
def b_Sightings_take_110_38 (F : Nat) (E : mx_E) (k38 : Int32 → Int32 → Int32 → mx_D → Option (Int32 × mx_D)) (l3 : Int32) (l4 : Int32) (l5 : Int32) (D : mx_D) : Option (Int32 × mx_D) := (if (D 57 0) ≤ l5 then (some ((nI 1), D)) else (Option.bind (g_Sightings_isPlace_110 D E l5) (fun r1 => (if r1 = 0 then (some ((nI 0), D)) else (Option.bind (g_Sightings_pewOf_110 E l5) (fun r2 => (Option.bind (g_Sightings_placeOf_110 E l5) (fun r3 => (if (l4 &&& ((nI 1) <<< (((r2 * (nI 5)) + r3) &&& 31))) = 0 then (if (nI 8) ≤ l5 then (k38 l3 (l4 ||| ((nI 1) <<< (((r2 * (nI 5)) + r3) &&& 31))) (l5 + (nI 1)) D) else (Option.bind (g_Sightings_fitting_110 F D E l3 l5) (fun r4 => (rk 8 l5 (k38 l3 (l4 ||| ((nI 1) <<< (((r2 * (nI 5)) + r3) &&& 31))) (l5 + (nI 1)) (sD D 58 (l5).toNatClampNeg r4)))))) else (some ((nI 0), D)))))))))))
set_option maxRecDepth 100000 in
set_option maxHeartbeats 4000000 in
theorem tb_Sightings_take_110_38 (X : ev_X) (F : Nat) (d : Nat) (hd : 4 ≤ d + 1) (E : mx_E) (k38 : Int32 → Int32 → Int32 → mx_D → Option (Int32 × mx_D)) (K38 : ∀ (l3 : Int32) (l4 : Int32) (l5 : Int32) (D : mx_D) (v : Int32 × mx_D), k38 l3 l4 l5 D = some v → ev X (d + 1) 92 (38, [some (.ref 57), some (.ref 110), some (.ref 19), some (.int l3), some (.int l4), some (.int l5), none], [], D, E) (qR (some (.int v.1)) v.2 E)) (l3 : Int32) (l4 : Int32) (l5 : Int32) (D : mx_D) (v : Int32 × mx_D) (h : b_Sightings_take_110_38 F E k38 l3 l4 l5 D = some v) : ev X (d + 1) 92 (38, [some (.ref 57), some (.ref 110), some (.ref 19), some (.int l3), some (.int l4), some (.int l5), none], [], D, E) (qR (some (.int v.1)) v.2 E) := by
  have hq : kq_m 92 = some kq_q92 := rfl
  unfold b_Sightings_take_110_38 at h
  refine gv_n hq 3 (S' := (44, [some (.ref 57), some (.ref 110), some (.ref 19), some (.int l3), some (.int l4), some (.int l5), none], [.int (D 57 0), .int l5], D, E)) rfl ?_
  refine gv_b hq rfl h 123 47 rfl rfl rfl (fun h => ?_) (fun h => ?_)
  · refine gv_n hq 1 (S' := (124, [some (.ref 57), some (.ref 110), some (.ref 19), some (.int l3), some (.int l4), some (.int l5), none], [.int (nI 1)], D, E)) rfl ?_
    cases h
    exact ev_ret hq rfl rfl ⟨rfl, rfl, rfl⟩
  · refine gv_n hq 3 (S' := (51, [some (.ref 57), some (.ref 110), some (.ref 19), some (.int l3), some (.int l4), some (.int l5), none], [.int l5, .ref 19, .ref 110], D, E)) rfl ?_
    obtain ⟨r1, h1, h⟩ := Option.bind_eq_some_iff.mp h
    refine gv_d hq rfl rfl rfl rfl rfl ((t_Sightings_isPlace_110 X d D E _ _ h1)) (S' := (54, [some (.ref 57), some (.ref 110), some (.ref 19), some (.int l3), some (.int l4), some (.int l5), none], [.int r1], D, E)) rfl ?_
    refine gv_b hq rfl h 57 59 rfl rfl rfl (fun h => ?_) (fun h => ?_)
    · refine gv_n hq 1 (S' := (58, [some (.ref 57), some (.ref 110), some (.ref 19), some (.int l3), some (.int l4), some (.int l5), none], [.int (nI 0)], D, E)) rfl ?_
      cases h
      exact ev_ret hq rfl rfl ⟨rfl, rfl, rfl⟩
    · refine gv_n hq 3 (S' := (63, [some (.ref 57), some (.ref 110), some (.ref 19), some (.int l3), some (.int l4), some (.int l5), none], [.int l5, .ref 110, .int (nI 1)], D, E)) rfl ?_
      obtain ⟨r2, h1, h⟩ := Option.bind_eq_some_iff.mp h
      refine gv_d hq rfl rfl rfl rfl rfl ((t_Sightings_pewOf_110 X d D E _ _ h1)) (S' := (66, [some (.ref 57), some (.ref 110), some (.ref 19), some (.int l3), some (.int l4), some (.int l5), none], [.int r2, .int (nI 1)], D, E)) rfl ?_
      refine gv_n hq 4 (S' := (71, [some (.ref 57), some (.ref 110), some (.ref 19), some (.int l3), some (.int l4), some (.int l5), none], [.int l5, .ref 110, .int (r2 * (nI 5)), .int (nI 1)], D, E)) rfl ?_
      obtain ⟨r3, h1, h⟩ := Option.bind_eq_some_iff.mp h
      refine gv_d hq rfl rfl rfl rfl rfl ((t_Sightings_placeOf_110 X d D E _ _ h1)) (S' := (74, [some (.ref 57), some (.ref 110), some (.ref 19), some (.int l3), some (.int l4), some (.int l5), none], [.int r3, .int (r2 * (nI 5)), .int (nI 1)], D, E)) rfl ?_
      refine gv_n hq 6 (S' := (83, [some (.ref 57), some (.ref 110), some (.ref 19), some (.int l3), some (.int l4), some (.int l5), some (.int ((nI 1) <<< (((r2 * (nI 5)) + r3) &&& 31)))], [.int (l4 &&& ((nI 1) <<< (((r2 * (nI 5)) + r3) &&& 31)))], D, E)) rfl ?_
      refine gv_b hq rfl h 88 86 rfl rfl rfl (fun h => ?_) (fun h => ?_)
      · refine gv_n hq 6 (S' := (99, [some (.ref 57), some (.ref 110), some (.ref 19), some (.int l3), some (.int (l4 ||| ((nI 1) <<< (((r2 * (nI 5)) + r3) &&& 31)))), some (.int l5), some (.int ((nI 1) <<< (((r2 * (nI 5)) + r3) &&& 31)))], [.int (nI 8), .int l5], D, E)) rfl ?_
        refine gv_b hq rfl h 117 102 rfl rfl rfl (fun h => ?_) (fun h => ?_)
        · refine gv_n hq 2 (S' := (38, [some (.ref 57), some (.ref 110), some (.ref 19), some (.int l3), some (.int (l4 ||| ((nI 1) <<< (((r2 * (nI 5)) + r3) &&& 31)))), some (.int (l5 + (nI 1))), some (.int ((nI 1) <<< (((r2 * (nI 5)) + r3) &&& 31)))], [], D, E)) rfl ?_
          exact gv_w (K38 _ _ _ _ _ h) (And.intro rfl (And.intro rfl (And.intro rfl (And.intro rfl (And.intro rfl (And.intro rfl trivial))))))
        · refine gv_n hq 7 (S' := (113, [some (.ref 57), some (.ref 110), some (.ref 19), some (.int l3), some (.int (l4 ||| ((nI 1) <<< (((r2 * (nI 5)) + r3) &&& 31)))), some (.int l5), some (.int ((nI 1) <<< (((r2 * (nI 5)) + r3) &&& 31)))], [.int l5, .int l3, .ref 19, .ref 110, .int l5, .ref 58], D, E)) rfl ?_
          obtain ⟨r4, h1, h⟩ := Option.bind_eq_some_iff.mp h
          refine gv_d hq rfl rfl rfl rfl rfl (gv_dd (by omega) (t_Sightings_fitting_110 X F (d - 1) (by omega) D E _ _ _ h1)) (S' := (116, [some (.ref 57), some (.ref 110), some (.ref 19), some (.int l3), some (.int (l4 ||| ((nI 1) <<< (((r2 * (nI 5)) + r3) &&& 31)))), some (.int l5), some (.int ((nI 1) <<< (((r2 * (nI 5)) + r3) &&& 31)))], [.int r4, .int l5, .ref 58], D, E)) rfl ?_
          refine gv_is hq rfl rfl h 117 rfl (fun h => ?_)
          refine gv_n hq 2 (S' := (38, [some (.ref 57), some (.ref 110), some (.ref 19), some (.int l3), some (.int (l4 ||| ((nI 1) <<< (((r2 * (nI 5)) + r3) &&& 31)))), some (.int (l5 + (nI 1))), some (.int ((nI 1) <<< (((r2 * (nI 5)) + r3) &&& 31)))], [], (sD D 58 (l5).toNatClampNeg r4), E)) rfl ?_
          exact gv_w (K38 _ _ _ _ _ h) (And.intro rfl (And.intro rfl (And.intro rfl (And.intro rfl (And.intro rfl (And.intro rfl trivial))))))
      · refine gv_n hq 1 (S' := (87, [some (.ref 57), some (.ref 110), some (.ref 19), some (.int l3), some (.int l4), some (.int l5), some (.int ((nI 1) <<< (((r2 * (nI 5)) + r3) &&& 31)))], [.int (nI 0)], D, E)) rfl ?_
        cases h
        exact ev_ret hq rfl rfl ⟨rfl, rfl, rfl⟩
def g_Sightings_take_110_38 (F : Nat) (E : mx_E) : Nat → Int32 → Int32 → Int32 → mx_D → Option (Int32 × mx_D) := it (fun k38 => b_Sightings_take_110_38 F E k38) (fun _ _ _ _ => none)
set_option maxRecDepth 100000 in
set_option maxHeartbeats 4000000 in
theorem t_Sightings_take_110_38 (X : ev_X) (F : Nat) (d : Nat) (hd : 4 ≤ d + 1) (E : mx_E)  : ∀ (n : Nat) (l3 : Int32) (l4 : Int32) (l5 : Int32) (D : mx_D) (v : Int32 × mx_D), g_Sightings_take_110_38 F E n l3 l4 l5 D = some v → ev X (d + 1) 92 (38, [some (.ref 57), some (.ref 110), some (.ref 19), some (.int l3), some (.int l4), some (.int l5), none], [], D, E) (qR (some (.int v.1)) v.2 E) := by
  intro n
  induction n with
  | zero => intro l3 l4 l5 D v h; cases h
  | succ n ih => intro l3 l4 l5 D v h; exact tb_Sightings_take_110_38 X F d hd E (g_Sightings_take_110_38 F E n) ih l3 l4 l5 D v h
def g_Sightings_take_110 (F : Nat) (E : mx_E) (a3 : Int32) (D : mx_D) : Option (Int32 × mx_D) := (if ((D 110 3) - (D 110 3) / (nI 3) * (nI 3)) = 0 then (g_Sightings_take_110_38 F E F a3 (nI 0) (nI 0) (sD (sD D 57 0 ((D 110 3) / (nI 3))) 57 1 ((sD D 57 0 ((D 110 3) / (nI 3))) 24 6))) else (some ((nI 0), D)))
set_option maxRecDepth 100000 in
set_option maxHeartbeats 4000000 in
theorem t_Sightings_take_110 (X : ev_X) (F : Nat) (d : Nat) (hd : 4 ≤ d + 1) (E : mx_E) (a3 : Int32) (D : mx_D) (v : Int32 × mx_D) (h : g_Sightings_take_110 F E a3 D = some v) : ev X (d + 1) 92 (0, [some (.ref 57), some (.ref 110), some (.ref 19), some (.int a3), none, none, none], [], D, E) (qR (some (.int v.1)) v.2 E) := by
  have hq : kq_m 92 = some kq_q92 := rfl
  unfold g_Sightings_take_110 at h
  refine gv_n hq 4 (S' := (6, [some (.ref 57), some (.ref 110), some (.ref 19), some (.int a3), none, none, none], [.int ((D 110 3) - (D 110 3) / (nI 3) * (nI 3))], D, E)) rfl ?_
  refine gv_b hq rfl h 11 9 rfl rfl rfl (fun h => ?_) (fun h => ?_)
  · refine gv_n hq 15 (S' := (38, [some (.ref 57), some (.ref 110), some (.ref 19), some (.int a3), some (.int (nI 0)), some (.int (nI 0)), none], [], (sD (sD D 57 0 ((D 110 3) / (nI 3))) 57 1 ((sD D 57 0 ((D 110 3) / (nI 3))) 24 6)), E)) rfl ?_
    exact gv_w (t_Sightings_take_110_38 X F d hd E F _ _ _ _ _ h) (And.intro rfl (And.intro rfl (And.intro rfl (And.intro rfl (And.intro rfl (And.intro rfl trivial))))))
  · refine gv_n hq 1 (S' := (10, [some (.ref 57), some (.ref 110), some (.ref 19), some (.int a3), none, none, none], [.int (nI 0)], D, E)) rfl ?_
    cases h
    exact ev_ret hq rfl rfl ⟨rfl, rfl, rfl⟩
def g_Sightings_isPlace_112 (D : mx_D) (E : mx_E) (a2 : Int32) : Option (Int32) := (rk 60 ((nI 3) * a2) (rk 60 (((nI 3) * a2) + (nI 1)) (if (lg_cmp (E 113 (((nI 3) * a2)).toNatClampNeg) (lN 0)) < 0 then (some (nI 0)) else (if 0 ≤ (lg_cmp (E 113 (((nI 3) * a2)).toNatClampNeg) (((D 19 0)).toInt64)) then (some (nI 0)) else (if (lg_cmp (E 113 ((((nI 3) * a2) + (nI 1))).toNatClampNeg) (lN 0)) < 0 then (some (nI 0)) else (if 0 ≤ (lg_cmp (E 113 ((((nI 3) * a2) + (nI 1))).toNatClampNeg) (((D 19 1)).toInt64)) then (some (nI 0)) else (some (nI 1))))))))
set_option maxRecDepth 100000 in
set_option maxHeartbeats 4000000 in
theorem t_Sightings_isPlace_112 (X : ev_X) (d : Nat) (D : mx_D) (E : mx_E) (a2 : Int32) (v : Int32) (h : g_Sightings_isPlace_112 D E a2 = some v) : ev X d 93 (0, [some (.ref 112), some (.ref 19), some (.int a2), none, none, none, none], [], D, E) (qR (some (.int v)) D E) := by
  have hq : kq_m 93 = some kq_q93 := rfl
  unfold g_Sightings_isPlace_112 at h
  refine gv_n hq 5 (S' := (7, [some (.ref 112), some (.ref 19), some (.int a2), none, none, none, none], [.int ((nI 3) * a2), .ref 113], D, E)) rfl ?_
  refine gv_la hq rfl rfl h 8 rfl (fun h => ?_)
  refine gv_n hq 8 (S' := (18, [some (.ref 112), some (.ref 19), some (.int a2), some (.long (E 113 (((nI 3) * a2)).toNatClampNeg)), none, none, none], [.int (((nI 3) * a2) + (nI 1)), .ref 113], D, E)) rfl ?_
  refine gv_la hq rfl rfl h 19 rfl (fun h => ?_)
  refine gv_n hq 4 (S' := (24, [some (.ref 112), some (.ref 19), some (.int a2), some (.long (E 113 (((nI 3) * a2)).toNatClampNeg)), none, some (.long (E 113 ((((nI 3) * a2) + (nI 1))).toNatClampNeg)), none], [.int (lg_cmp (E 113 (((nI 3) * a2)).toNatClampNeg) (lN 0))], D, E)) rfl ?_
  refine gv_b hq rfl h 59 27 rfl rfl rfl (fun h => ?_) (fun h => ?_)
  · refine gv_n hq 1 (S' := (60, [some (.ref 112), some (.ref 19), some (.int a2), some (.long (E 113 (((nI 3) * a2)).toNatClampNeg)), none, some (.long (E 113 ((((nI 3) * a2) + (nI 1))).toNatClampNeg)), none], [.int (nI 0)], D, E)) rfl ?_
    cases h
    exact ev_ret hq rfl rfl ⟨rfl, rfl, rfl⟩
  · refine gv_n hq 5 (S' := (34, [some (.ref 112), some (.ref 19), some (.int a2), some (.long (E 113 (((nI 3) * a2)).toNatClampNeg)), none, some (.long (E 113 ((((nI 3) * a2) + (nI 1))).toNatClampNeg)), none], [.int (lg_cmp (E 113 (((nI 3) * a2)).toNatClampNeg) (((D 19 0)).toInt64))], D, E)) rfl ?_
    refine gv_b hq rfl h 59 37 rfl rfl rfl (fun h => ?_) (fun h => ?_)
    · refine gv_n hq 1 (S' := (60, [some (.ref 112), some (.ref 19), some (.int a2), some (.long (E 113 (((nI 3) * a2)).toNatClampNeg)), none, some (.long (E 113 ((((nI 3) * a2) + (nI 1))).toNatClampNeg)), none], [.int (nI 0)], D, E)) rfl ?_
      cases h
      exact ev_ret hq rfl rfl ⟨rfl, rfl, rfl⟩
    · refine gv_n hq 3 (S' := (41, [some (.ref 112), some (.ref 19), some (.int a2), some (.long (E 113 (((nI 3) * a2)).toNatClampNeg)), none, some (.long (E 113 ((((nI 3) * a2) + (nI 1))).toNatClampNeg)), none], [.int (lg_cmp (E 113 ((((nI 3) * a2) + (nI 1))).toNatClampNeg) (lN 0))], D, E)) rfl ?_
      refine gv_b hq rfl h 59 44 rfl rfl rfl (fun h => ?_) (fun h => ?_)
      · refine gv_n hq 1 (S' := (60, [some (.ref 112), some (.ref 19), some (.int a2), some (.long (E 113 (((nI 3) * a2)).toNatClampNeg)), none, some (.long (E 113 ((((nI 3) * a2) + (nI 1))).toNatClampNeg)), none], [.int (nI 0)], D, E)) rfl ?_
        cases h
        exact ev_ret hq rfl rfl ⟨rfl, rfl, rfl⟩
      · refine gv_n hq 5 (S' := (52, [some (.ref 112), some (.ref 19), some (.int a2), some (.long (E 113 (((nI 3) * a2)).toNatClampNeg)), none, some (.long (E 113 ((((nI 3) * a2) + (nI 1))).toNatClampNeg)), none], [.int (lg_cmp (E 113 ((((nI 3) * a2) + (nI 1))).toNatClampNeg) (((D 19 1)).toInt64))], D, E)) rfl ?_
        refine gv_b hq rfl h 59 55 rfl rfl rfl (fun h => ?_) (fun h => ?_)
        · refine gv_n hq 1 (S' := (60, [some (.ref 112), some (.ref 19), some (.int a2), some (.long (E 113 (((nI 3) * a2)).toNatClampNeg)), none, some (.long (E 113 ((((nI 3) * a2) + (nI 1))).toNatClampNeg)), none], [.int (nI 0)], D, E)) rfl ?_
          cases h
          exact ev_ret hq rfl rfl ⟨rfl, rfl, rfl⟩
        · refine gv_n hq 2 (S' := (60, [some (.ref 112), some (.ref 19), some (.int a2), some (.long (E 113 (((nI 3) * a2)).toNatClampNeg)), none, some (.long (E 113 ((((nI 3) * a2) + (nI 1))).toNatClampNeg)), none], [.int (nI 1)], D, E)) rfl ?_
          cases h
          exact ev_ret hq rfl rfl ⟨rfl, rfl, rfl⟩
def g_Sightings_pewOf_112 (E : mx_E) (a1 : Int32) : Option (Int32) := (rk 60 ((nI 3) * a1) (some (((E 113 (((nI 3) * a1)).toNatClampNeg)).toInt32)))
set_option maxRecDepth 100000 in
set_option maxHeartbeats 4000000 in
theorem t_Sightings_pewOf_112 (X : ev_X) (d : Nat) (D : mx_D) (E : mx_E) (a1 : Int32) (v : Int32) (h : g_Sightings_pewOf_112 E a1 = some v) : ev X d 94 (0, [some (.ref 112), some (.int a1)], [], D, E) (qR (some (.int v)) D E) := by
  have hq : kq_m 94 = some kq_q94 := rfl
  unfold g_Sightings_pewOf_112 at h
  refine gv_n hq 5 (S' := (7, [some (.ref 112), some (.int a1)], [.int ((nI 3) * a1), .ref 113], D, E)) rfl ?_
  refine gv_la hq rfl rfl h 8 rfl (fun h => ?_)
  refine gv_n hq 1 (S' := (9, [some (.ref 112), some (.int a1)], [.int (((E 113 (((nI 3) * a1)).toNatClampNeg)).toInt32)], D, E)) rfl ?_
  cases h
  exact ev_ret hq rfl rfl ⟨rfl, rfl, rfl⟩
def g_Sightings_placeOf_112 (E : mx_E) (a1 : Int32) : Option (Int32) := (rk 60 (((nI 3) * a1) + (nI 1)) (some (((E 113 ((((nI 3) * a1) + (nI 1))).toNatClampNeg)).toInt32)))
set_option maxRecDepth 100000 in
set_option maxHeartbeats 4000000 in
theorem t_Sightings_placeOf_112 (X : ev_X) (d : Nat) (D : mx_D) (E : mx_E) (a1 : Int32) (v : Int32) (h : g_Sightings_placeOf_112 E a1 = some v) : ev X d 95 (0, [some (.ref 112), some (.int a1)], [], D, E) (qR (some (.int v)) D E) := by
  have hq : kq_m 95 = some kq_q95 := rfl
  unfold g_Sightings_placeOf_112 at h
  refine gv_n hq 7 (S' := (9, [some (.ref 112), some (.int a1)], [.int (((nI 3) * a1) + (nI 1)), .ref 113], D, E)) rfl ?_
  refine gv_la hq rfl rfl h 10 rfl (fun h => ?_)
  refine gv_n hq 1 (S' := (11, [some (.ref 112), some (.int a1)], [.int (((E 113 ((((nI 3) * a1) + (nI 1))).toNatClampNeg)).toInt32)], D, E)) rfl ?_
  cases h
  exact ev_ret hq rfl rfl ⟨rfl, rfl, rfl⟩
def b_Sightings_fitting_112_22 (F : Nat) (D : mx_D) (E : mx_E) (k22 : Int32 → Int32 → Int32 → Int32 → Int32 → Option (Int32)) (l2 : Int32) (l3 : Int32) (l4 : Int32) (l5 : Int32) (l6 : Int32) : Option (Int32) := (if (D 24 6) ≤ l6 then (some l5) else (Option.bind (g_Church_standingHigh F D l6 l2) (fun r4 => (rk 60 (((nI 3) * l3) + (nI 2)) (if (lg_cmp (((r4 + l4)).toInt64) (E 113 ((((nI 3) * l3) + (nI 2))).toNatClampNeg)) = 0 then (k22 l2 l3 l4 (l5 ||| ((nI 1) <<< (l6 &&& 31))) (l6 + (nI 1))) else (k22 l2 l3 l4 l5 (l6 + (nI 1))))))))
set_option maxRecDepth 100000 in
set_option maxHeartbeats 4000000 in
theorem tb_Sightings_fitting_112_22 (X : ev_X) (F : Nat) (d : Nat) (hd : 3 ≤ d + 1) (D : mx_D) (E : mx_E) (k22 : Int32 → Int32 → Int32 → Int32 → Int32 → Option (Int32)) (K22 : ∀ (l2 : Int32) (l3 : Int32) (l4 : Int32) (l5 : Int32) (l6 : Int32) (v : Int32), k22 l2 l3 l4 l5 l6 = some v → ev X (d + 1) 96 (22, [some (.ref 112), some (.ref 19), some (.int l2), some (.int l3), some (.int l4), some (.int l5), some (.int l6)], [], D, E) (qR (some (.int v)) D E)) (l2 : Int32) (l3 : Int32) (l4 : Int32) (l5 : Int32) (l6 : Int32) (v : Int32) (h : b_Sightings_fitting_112_22 F D E k22 l2 l3 l4 l5 l6 = some v) : ev X (d + 1) 96 (22, [some (.ref 112), some (.ref 19), some (.int l2), some (.int l3), some (.int l4), some (.int l5), some (.int l6)], [], D, E) (qR (some (.int v)) D E) := by
  have hq : kq_m 96 = some kq_q96 := rfl
  unfold b_Sightings_fitting_112_22 at h
  refine gv_n hq 4 (S' := (31, [some (.ref 112), some (.ref 19), some (.int l2), some (.int l3), some (.int l4), some (.int l5), some (.int l6)], [.int (D 24 6), .int l6], D, E)) rfl ?_
  refine gv_b hq rfl h 74 34 rfl rfl rfl (fun h => ?_) (fun h => ?_)
  · refine gv_n hq 1 (S' := (76, [some (.ref 112), some (.ref 19), some (.int l2), some (.int l3), some (.int l4), some (.int l5), some (.int l6)], [.int l5], D, E)) rfl ?_
    cases h
    exact ev_ret hq rfl rfl ⟨rfl, rfl, rfl⟩
  · refine gv_n hq 3 (S' := (38, [some (.ref 112), some (.ref 19), some (.int l2), some (.int l3), some (.int l4), some (.int l5), some (.int l6)], [.int l2, .int l6, .ref 19], D, E)) rfl ?_
    obtain ⟨r4, h1, h⟩ := Option.bind_eq_some_iff.mp h
    refine gv_d hq rfl rfl rfl rfl rfl (gv_dd (by omega) (t_Church_standingHigh X F (d - 1) (by omega) D E _ _ _ h1)) (S' := (41, [some (.ref 112), some (.ref 19), some (.int l2), some (.int l3), some (.int l4), some (.int l5), some (.int l6)], [.int r4], D, E)) rfl ?_
    refine gv_n hq 10 (S' := (54, [some (.ref 112), some (.ref 19), some (.int l2), some (.int l3), some (.int l4), some (.int l5), some (.int l6)], [.int (((nI 3) * l3) + (nI 2)), .ref 113, .long (((r4 + l4)).toInt64)], D, E)) rfl ?_
    refine gv_la hq rfl rfl h 55 rfl (fun h => ?_)
    refine gv_n hq 1 (S' := (56, [some (.ref 112), some (.ref 19), some (.int l2), some (.int l3), some (.int l4), some (.int l5), some (.int l6)], [.int (lg_cmp (((r4 + l4)).toInt64) (E 113 ((((nI 3) * l3) + (nI 2))).toNatClampNeg))], D, E)) rfl ?_
    refine gv_b hq rfl h 59 68 rfl rfl rfl (fun h => ?_) (fun h => ?_)
    · refine gv_n hq 8 (S' := (22, [some (.ref 112), some (.ref 19), some (.int l2), some (.int l3), some (.int l4), some (.int (l5 ||| ((nI 1) <<< (l6 &&& 31)))), some (.int (l6 + (nI 1)))], [], D, E)) rfl ?_
      exact gv_w (K22 _ _ _ _ _ _ h) (And.intro rfl (And.intro rfl (And.intro rfl (And.intro rfl (And.intro rfl (And.intro rfl (And.intro rfl trivial)))))))
    · refine gv_n hq 2 (S' := (22, [some (.ref 112), some (.ref 19), some (.int l2), some (.int l3), some (.int l4), some (.int l5), some (.int (l6 + (nI 1)))], [], D, E)) rfl ?_
      exact gv_w (K22 _ _ _ _ _ _ h) (And.intro rfl (And.intro rfl (And.intro rfl (And.intro rfl (And.intro rfl (And.intro rfl (And.intro rfl trivial)))))))
def g_Sightings_fitting_112_22 (F : Nat) (D : mx_D) (E : mx_E) : Nat → Int32 → Int32 → Int32 → Int32 → Int32 → Option (Int32) := it (fun k22 => b_Sightings_fitting_112_22 F D E k22) (fun _ _ _ _ _ => none)
set_option maxRecDepth 100000 in
set_option maxHeartbeats 4000000 in
theorem t_Sightings_fitting_112_22 (X : ev_X) (F : Nat) (d : Nat) (hd : 3 ≤ d + 1) (D : mx_D) (E : mx_E)  : ∀ (n : Nat) (l2 : Int32) (l3 : Int32) (l4 : Int32) (l5 : Int32) (l6 : Int32) (v : Int32), g_Sightings_fitting_112_22 F D E n l2 l3 l4 l5 l6 = some v → ev X (d + 1) 96 (22, [some (.ref 112), some (.ref 19), some (.int l2), some (.int l3), some (.int l4), some (.int l5), some (.int l6)], [], D, E) (qR (some (.int v)) D E) := by
  intro n
  induction n with
  | zero => intro l2 l3 l4 l5 l6 v h; cases h
  | succ n ih => intro l2 l3 l4 l5 l6 v h; exact tb_Sightings_fitting_112_22 X F d hd D E (g_Sightings_fitting_112_22 F D E n) ih l2 l3 l4 l5 l6 v h
def g_Sightings_fitting_112 (F : Nat) (D : mx_D) (E : mx_E) (a2 : Int32) (a3 : Int32) : Option (Int32) := (Option.bind (g_Sightings_pewOf_112 E a3) (fun r1 => (Option.bind (g_Sightings_placeOf_112 E a3) (fun r2 => (Option.bind (g_Church_floorAt D r1 r2) (fun r3 => (g_Sightings_fitting_112_22 F D E F a2 a3 r3 (nI 0) (nI 0))))))))
set_option maxRecDepth 100000 in
set_option maxHeartbeats 4000000 in
theorem t_Sightings_fitting_112 (X : ev_X) (F : Nat) (d : Nat) (hd : 3 ≤ d + 1) (D : mx_D) (E : mx_E) (a2 : Int32) (a3 : Int32) (v : Int32) (h : g_Sightings_fitting_112 F D E a2 a3 = some v) : ev X (d + 1) 96 (0, [some (.ref 112), some (.ref 19), some (.int a2), some (.int a3), none, none, none], [], D, E) (qR (some (.int v)) D E) := by
  have hq : kq_m 96 = some kq_q96 := rfl
  unfold g_Sightings_fitting_112 at h
  refine gv_n hq 3 (S' := (3, [some (.ref 112), some (.ref 19), some (.int a2), some (.int a3), none, none, none], [.int a3, .ref 112, .ref 19], D, E)) rfl ?_
  obtain ⟨r1, h1, h⟩ := Option.bind_eq_some_iff.mp h
  refine gv_d hq rfl rfl rfl rfl rfl ((t_Sightings_pewOf_112 X d D E _ _ h1)) (S' := (6, [some (.ref 112), some (.ref 19), some (.int a2), some (.int a3), none, none, none], [.int r1, .ref 19], D, E)) rfl ?_
  refine gv_n hq 2 (S' := (8, [some (.ref 112), some (.ref 19), some (.int a2), some (.int a3), none, none, none], [.int a3, .ref 112, .int r1, .ref 19], D, E)) rfl ?_
  obtain ⟨r2, h1, h⟩ := Option.bind_eq_some_iff.mp h
  refine gv_d hq rfl rfl rfl rfl rfl ((t_Sightings_placeOf_112 X d D E _ _ h1)) (S' := (11, [some (.ref 112), some (.ref 19), some (.int a2), some (.int a3), none, none, none], [.int r2, .int r1, .ref 19], D, E)) rfl ?_
  obtain ⟨r3, h1, h⟩ := Option.bind_eq_some_iff.mp h
  refine gv_d hq rfl rfl rfl rfl rfl (gv_dd (by omega) (t_Church_floorAt X (d - 1) (by omega) D E _ _ _ h1)) (S' := (14, [some (.ref 112), some (.ref 19), some (.int a2), some (.int a3), none, none, none], [.int r3], D, E)) rfl ?_
  refine gv_n hq 5 (S' := (22, [some (.ref 112), some (.ref 19), some (.int a2), some (.int a3), some (.int r3), some (.int (nI 0)), some (.int (nI 0))], [], D, E)) rfl ?_
  exact gv_w (t_Sightings_fitting_112_22 X F d hd D E F _ _ _ _ _ _ h) (And.intro rfl (And.intro rfl (And.intro rfl (And.intro rfl (And.intro rfl (And.intro rfl (And.intro rfl trivial)))))))
def b_Sightings_take_112_38 (F : Nat) (E : mx_E) (k38 : Int32 → Int32 → Int32 → mx_D → Option (Int32 × mx_D)) (l3 : Int32) (l4 : Int32) (l5 : Int32) (D : mx_D) : Option (Int32 × mx_D) := (if (D 57 0) ≤ l5 then (some ((nI 1), D)) else (Option.bind (g_Sightings_isPlace_112 D E l5) (fun r1 => (if r1 = 0 then (some ((nI 0), D)) else (Option.bind (g_Sightings_pewOf_112 E l5) (fun r2 => (Option.bind (g_Sightings_placeOf_112 E l5) (fun r3 => (if (l4 &&& ((nI 1) <<< (((r2 * (nI 5)) + r3) &&& 31))) = 0 then (if (nI 8) ≤ l5 then (k38 l3 (l4 ||| ((nI 1) <<< (((r2 * (nI 5)) + r3) &&& 31))) (l5 + (nI 1)) D) else (Option.bind (g_Sightings_fitting_112 F D E l3 l5) (fun r4 => (rk 8 l5 (k38 l3 (l4 ||| ((nI 1) <<< (((r2 * (nI 5)) + r3) &&& 31))) (l5 + (nI 1)) (sD D 58 (l5).toNatClampNeg r4)))))) else (some ((nI 0), D)))))))))))
set_option maxRecDepth 100000 in
set_option maxHeartbeats 4000000 in
theorem tb_Sightings_take_112_38 (X : ev_X) (F : Nat) (d : Nat) (hd : 4 ≤ d + 1) (E : mx_E) (k38 : Int32 → Int32 → Int32 → mx_D → Option (Int32 × mx_D)) (K38 : ∀ (l3 : Int32) (l4 : Int32) (l5 : Int32) (D : mx_D) (v : Int32 × mx_D), k38 l3 l4 l5 D = some v → ev X (d + 1) 92 (38, [some (.ref 57), some (.ref 112), some (.ref 19), some (.int l3), some (.int l4), some (.int l5), none], [], D, E) (qR (some (.int v.1)) v.2 E)) (l3 : Int32) (l4 : Int32) (l5 : Int32) (D : mx_D) (v : Int32 × mx_D) (h : b_Sightings_take_112_38 F E k38 l3 l4 l5 D = some v) : ev X (d + 1) 92 (38, [some (.ref 57), some (.ref 112), some (.ref 19), some (.int l3), some (.int l4), some (.int l5), none], [], D, E) (qR (some (.int v.1)) v.2 E) := by
  have hq : kq_m 92 = some kq_q92 := rfl
  unfold b_Sightings_take_112_38 at h
  refine gv_n hq 3 (S' := (44, [some (.ref 57), some (.ref 112), some (.ref 19), some (.int l3), some (.int l4), some (.int l5), none], [.int (D 57 0), .int l5], D, E)) rfl ?_
  refine gv_b hq rfl h 123 47 rfl rfl rfl (fun h => ?_) (fun h => ?_)
  · refine gv_n hq 1 (S' := (124, [some (.ref 57), some (.ref 112), some (.ref 19), some (.int l3), some (.int l4), some (.int l5), none], [.int (nI 1)], D, E)) rfl ?_
    cases h
    exact ev_ret hq rfl rfl ⟨rfl, rfl, rfl⟩
  · refine gv_n hq 3 (S' := (51, [some (.ref 57), some (.ref 112), some (.ref 19), some (.int l3), some (.int l4), some (.int l5), none], [.int l5, .ref 19, .ref 112], D, E)) rfl ?_
    obtain ⟨r1, h1, h⟩ := Option.bind_eq_some_iff.mp h
    refine gv_d hq rfl rfl rfl rfl rfl ((t_Sightings_isPlace_112 X d D E _ _ h1)) (S' := (54, [some (.ref 57), some (.ref 112), some (.ref 19), some (.int l3), some (.int l4), some (.int l5), none], [.int r1], D, E)) rfl ?_
    refine gv_b hq rfl h 57 59 rfl rfl rfl (fun h => ?_) (fun h => ?_)
    · refine gv_n hq 1 (S' := (58, [some (.ref 57), some (.ref 112), some (.ref 19), some (.int l3), some (.int l4), some (.int l5), none], [.int (nI 0)], D, E)) rfl ?_
      cases h
      exact ev_ret hq rfl rfl ⟨rfl, rfl, rfl⟩
    · refine gv_n hq 3 (S' := (63, [some (.ref 57), some (.ref 112), some (.ref 19), some (.int l3), some (.int l4), some (.int l5), none], [.int l5, .ref 112, .int (nI 1)], D, E)) rfl ?_
      obtain ⟨r2, h1, h⟩ := Option.bind_eq_some_iff.mp h
      refine gv_d hq rfl rfl rfl rfl rfl ((t_Sightings_pewOf_112 X d D E _ _ h1)) (S' := (66, [some (.ref 57), some (.ref 112), some (.ref 19), some (.int l3), some (.int l4), some (.int l5), none], [.int r2, .int (nI 1)], D, E)) rfl ?_
      refine gv_n hq 4 (S' := (71, [some (.ref 57), some (.ref 112), some (.ref 19), some (.int l3), some (.int l4), some (.int l5), none], [.int l5, .ref 112, .int (r2 * (nI 5)), .int (nI 1)], D, E)) rfl ?_
      obtain ⟨r3, h1, h⟩ := Option.bind_eq_some_iff.mp h
      refine gv_d hq rfl rfl rfl rfl rfl ((t_Sightings_placeOf_112 X d D E _ _ h1)) (S' := (74, [some (.ref 57), some (.ref 112), some (.ref 19), some (.int l3), some (.int l4), some (.int l5), none], [.int r3, .int (r2 * (nI 5)), .int (nI 1)], D, E)) rfl ?_
      refine gv_n hq 6 (S' := (83, [some (.ref 57), some (.ref 112), some (.ref 19), some (.int l3), some (.int l4), some (.int l5), some (.int ((nI 1) <<< (((r2 * (nI 5)) + r3) &&& 31)))], [.int (l4 &&& ((nI 1) <<< (((r2 * (nI 5)) + r3) &&& 31)))], D, E)) rfl ?_
      refine gv_b hq rfl h 88 86 rfl rfl rfl (fun h => ?_) (fun h => ?_)
      · refine gv_n hq 6 (S' := (99, [some (.ref 57), some (.ref 112), some (.ref 19), some (.int l3), some (.int (l4 ||| ((nI 1) <<< (((r2 * (nI 5)) + r3) &&& 31)))), some (.int l5), some (.int ((nI 1) <<< (((r2 * (nI 5)) + r3) &&& 31)))], [.int (nI 8), .int l5], D, E)) rfl ?_
        refine gv_b hq rfl h 117 102 rfl rfl rfl (fun h => ?_) (fun h => ?_)
        · refine gv_n hq 2 (S' := (38, [some (.ref 57), some (.ref 112), some (.ref 19), some (.int l3), some (.int (l4 ||| ((nI 1) <<< (((r2 * (nI 5)) + r3) &&& 31)))), some (.int (l5 + (nI 1))), some (.int ((nI 1) <<< (((r2 * (nI 5)) + r3) &&& 31)))], [], D, E)) rfl ?_
          exact gv_w (K38 _ _ _ _ _ h) (And.intro rfl (And.intro rfl (And.intro rfl (And.intro rfl (And.intro rfl (And.intro rfl trivial))))))
        · refine gv_n hq 7 (S' := (113, [some (.ref 57), some (.ref 112), some (.ref 19), some (.int l3), some (.int (l4 ||| ((nI 1) <<< (((r2 * (nI 5)) + r3) &&& 31)))), some (.int l5), some (.int ((nI 1) <<< (((r2 * (nI 5)) + r3) &&& 31)))], [.int l5, .int l3, .ref 19, .ref 112, .int l5, .ref 58], D, E)) rfl ?_
          obtain ⟨r4, h1, h⟩ := Option.bind_eq_some_iff.mp h
          refine gv_d hq rfl rfl rfl rfl rfl (gv_dd (by omega) (t_Sightings_fitting_112 X F (d - 1) (by omega) D E _ _ _ h1)) (S' := (116, [some (.ref 57), some (.ref 112), some (.ref 19), some (.int l3), some (.int (l4 ||| ((nI 1) <<< (((r2 * (nI 5)) + r3) &&& 31)))), some (.int l5), some (.int ((nI 1) <<< (((r2 * (nI 5)) + r3) &&& 31)))], [.int r4, .int l5, .ref 58], D, E)) rfl ?_
          refine gv_is hq rfl rfl h 117 rfl (fun h => ?_)
          refine gv_n hq 2 (S' := (38, [some (.ref 57), some (.ref 112), some (.ref 19), some (.int l3), some (.int (l4 ||| ((nI 1) <<< (((r2 * (nI 5)) + r3) &&& 31)))), some (.int (l5 + (nI 1))), some (.int ((nI 1) <<< (((r2 * (nI 5)) + r3) &&& 31)))], [], (sD D 58 (l5).toNatClampNeg r4), E)) rfl ?_
          exact gv_w (K38 _ _ _ _ _ h) (And.intro rfl (And.intro rfl (And.intro rfl (And.intro rfl (And.intro rfl (And.intro rfl trivial))))))
      · refine gv_n hq 1 (S' := (87, [some (.ref 57), some (.ref 112), some (.ref 19), some (.int l3), some (.int l4), some (.int l5), some (.int ((nI 1) <<< (((r2 * (nI 5)) + r3) &&& 31)))], [.int (nI 0)], D, E)) rfl ?_
        cases h
        exact ev_ret hq rfl rfl ⟨rfl, rfl, rfl⟩
def g_Sightings_take_112_38 (F : Nat) (E : mx_E) : Nat → Int32 → Int32 → Int32 → mx_D → Option (Int32 × mx_D) := it (fun k38 => b_Sightings_take_112_38 F E k38) (fun _ _ _ _ => none)
set_option maxRecDepth 100000 in
set_option maxHeartbeats 4000000 in
theorem t_Sightings_take_112_38 (X : ev_X) (F : Nat) (d : Nat) (hd : 4 ≤ d + 1) (E : mx_E)  : ∀ (n : Nat) (l3 : Int32) (l4 : Int32) (l5 : Int32) (D : mx_D) (v : Int32 × mx_D), g_Sightings_take_112_38 F E n l3 l4 l5 D = some v → ev X (d + 1) 92 (38, [some (.ref 57), some (.ref 112), some (.ref 19), some (.int l3), some (.int l4), some (.int l5), none], [], D, E) (qR (some (.int v.1)) v.2 E) := by
  intro n
  induction n with
  | zero => intro l3 l4 l5 D v h; cases h
  | succ n ih => intro l3 l4 l5 D v h; exact tb_Sightings_take_112_38 X F d hd E (g_Sightings_take_112_38 F E n) ih l3 l4 l5 D v h
def g_Sightings_take_112 (F : Nat) (E : mx_E) (a3 : Int32) (D : mx_D) : Option (Int32 × mx_D) := (if ((D 112 3) - (D 112 3) / (nI 3) * (nI 3)) = 0 then (g_Sightings_take_112_38 F E F a3 (nI 0) (nI 0) (sD (sD D 57 0 ((D 112 3) / (nI 3))) 57 1 ((sD D 57 0 ((D 112 3) / (nI 3))) 24 6))) else (some ((nI 0), D)))
set_option maxRecDepth 100000 in
set_option maxHeartbeats 4000000 in
theorem t_Sightings_take_112 (X : ev_X) (F : Nat) (d : Nat) (hd : 4 ≤ d + 1) (E : mx_E) (a3 : Int32) (D : mx_D) (v : Int32 × mx_D) (h : g_Sightings_take_112 F E a3 D = some v) : ev X (d + 1) 92 (0, [some (.ref 57), some (.ref 112), some (.ref 19), some (.int a3), none, none, none], [], D, E) (qR (some (.int v.1)) v.2 E) := by
  have hq : kq_m 92 = some kq_q92 := rfl
  unfold g_Sightings_take_112 at h
  refine gv_n hq 4 (S' := (6, [some (.ref 57), some (.ref 112), some (.ref 19), some (.int a3), none, none, none], [.int ((D 112 3) - (D 112 3) / (nI 3) * (nI 3))], D, E)) rfl ?_
  refine gv_b hq rfl h 11 9 rfl rfl rfl (fun h => ?_) (fun h => ?_)
  · refine gv_n hq 15 (S' := (38, [some (.ref 57), some (.ref 112), some (.ref 19), some (.int a3), some (.int (nI 0)), some (.int (nI 0)), none], [], (sD (sD D 57 0 ((D 112 3) / (nI 3))) 57 1 ((sD D 57 0 ((D 112 3) / (nI 3))) 24 6)), E)) rfl ?_
    exact gv_w (t_Sightings_take_112_38 X F d hd E F _ _ _ _ _ h) (And.intro rfl (And.intro rfl (And.intro rfl (And.intro rfl (And.intro rfl (And.intro rfl trivial))))))
  · refine gv_n hq 1 (S' := (10, [some (.ref 57), some (.ref 112), some (.ref 19), some (.int a3), none, none, none], [.int (nI 0)], D, E)) rfl ?_
    cases h
    exact ev_ret hq rfl rfl ⟨rfl, rfl, rfl⟩
def g_Sightings_isPlace_114 (D : mx_D) (E : mx_E) (a2 : Int32) : Option (Int32) := (rk 60 ((nI 3) * a2) (rk 60 (((nI 3) * a2) + (nI 1)) (if (lg_cmp (E 115 (((nI 3) * a2)).toNatClampNeg) (lN 0)) < 0 then (some (nI 0)) else (if 0 ≤ (lg_cmp (E 115 (((nI 3) * a2)).toNatClampNeg) (((D 19 0)).toInt64)) then (some (nI 0)) else (if (lg_cmp (E 115 ((((nI 3) * a2) + (nI 1))).toNatClampNeg) (lN 0)) < 0 then (some (nI 0)) else (if 0 ≤ (lg_cmp (E 115 ((((nI 3) * a2) + (nI 1))).toNatClampNeg) (((D 19 1)).toInt64)) then (some (nI 0)) else (some (nI 1))))))))
set_option maxRecDepth 100000 in
set_option maxHeartbeats 4000000 in
theorem t_Sightings_isPlace_114 (X : ev_X) (d : Nat) (D : mx_D) (E : mx_E) (a2 : Int32) (v : Int32) (h : g_Sightings_isPlace_114 D E a2 = some v) : ev X d 93 (0, [some (.ref 114), some (.ref 19), some (.int a2), none, none, none, none], [], D, E) (qR (some (.int v)) D E) := by
  have hq : kq_m 93 = some kq_q93 := rfl
  unfold g_Sightings_isPlace_114 at h
  refine gv_n hq 5 (S' := (7, [some (.ref 114), some (.ref 19), some (.int a2), none, none, none, none], [.int ((nI 3) * a2), .ref 115], D, E)) rfl ?_
  refine gv_la hq rfl rfl h 8 rfl (fun h => ?_)
  refine gv_n hq 8 (S' := (18, [some (.ref 114), some (.ref 19), some (.int a2), some (.long (E 115 (((nI 3) * a2)).toNatClampNeg)), none, none, none], [.int (((nI 3) * a2) + (nI 1)), .ref 115], D, E)) rfl ?_
  refine gv_la hq rfl rfl h 19 rfl (fun h => ?_)
  refine gv_n hq 4 (S' := (24, [some (.ref 114), some (.ref 19), some (.int a2), some (.long (E 115 (((nI 3) * a2)).toNatClampNeg)), none, some (.long (E 115 ((((nI 3) * a2) + (nI 1))).toNatClampNeg)), none], [.int (lg_cmp (E 115 (((nI 3) * a2)).toNatClampNeg) (lN 0))], D, E)) rfl ?_
  refine gv_b hq rfl h 59 27 rfl rfl rfl (fun h => ?_) (fun h => ?_)
  · refine gv_n hq 1 (S' := (60, [some (.ref 114), some (.ref 19), some (.int a2), some (.long (E 115 (((nI 3) * a2)).toNatClampNeg)), none, some (.long (E 115 ((((nI 3) * a2) + (nI 1))).toNatClampNeg)), none], [.int (nI 0)], D, E)) rfl ?_
    cases h
    exact ev_ret hq rfl rfl ⟨rfl, rfl, rfl⟩
  · refine gv_n hq 5 (S' := (34, [some (.ref 114), some (.ref 19), some (.int a2), some (.long (E 115 (((nI 3) * a2)).toNatClampNeg)), none, some (.long (E 115 ((((nI 3) * a2) + (nI 1))).toNatClampNeg)), none], [.int (lg_cmp (E 115 (((nI 3) * a2)).toNatClampNeg) (((D 19 0)).toInt64))], D, E)) rfl ?_
    refine gv_b hq rfl h 59 37 rfl rfl rfl (fun h => ?_) (fun h => ?_)
    · refine gv_n hq 1 (S' := (60, [some (.ref 114), some (.ref 19), some (.int a2), some (.long (E 115 (((nI 3) * a2)).toNatClampNeg)), none, some (.long (E 115 ((((nI 3) * a2) + (nI 1))).toNatClampNeg)), none], [.int (nI 0)], D, E)) rfl ?_
      cases h
      exact ev_ret hq rfl rfl ⟨rfl, rfl, rfl⟩
    · refine gv_n hq 3 (S' := (41, [some (.ref 114), some (.ref 19), some (.int a2), some (.long (E 115 (((nI 3) * a2)).toNatClampNeg)), none, some (.long (E 115 ((((nI 3) * a2) + (nI 1))).toNatClampNeg)), none], [.int (lg_cmp (E 115 ((((nI 3) * a2) + (nI 1))).toNatClampNeg) (lN 0))], D, E)) rfl ?_
      refine gv_b hq rfl h 59 44 rfl rfl rfl (fun h => ?_) (fun h => ?_)
      · refine gv_n hq 1 (S' := (60, [some (.ref 114), some (.ref 19), some (.int a2), some (.long (E 115 (((nI 3) * a2)).toNatClampNeg)), none, some (.long (E 115 ((((nI 3) * a2) + (nI 1))).toNatClampNeg)), none], [.int (nI 0)], D, E)) rfl ?_
        cases h
        exact ev_ret hq rfl rfl ⟨rfl, rfl, rfl⟩
      · refine gv_n hq 5 (S' := (52, [some (.ref 114), some (.ref 19), some (.int a2), some (.long (E 115 (((nI 3) * a2)).toNatClampNeg)), none, some (.long (E 115 ((((nI 3) * a2) + (nI 1))).toNatClampNeg)), none], [.int (lg_cmp (E 115 ((((nI 3) * a2) + (nI 1))).toNatClampNeg) (((D 19 1)).toInt64))], D, E)) rfl ?_
        refine gv_b hq rfl h 59 55 rfl rfl rfl (fun h => ?_) (fun h => ?_)
        · refine gv_n hq 1 (S' := (60, [some (.ref 114), some (.ref 19), some (.int a2), some (.long (E 115 (((nI 3) * a2)).toNatClampNeg)), none, some (.long (E 115 ((((nI 3) * a2) + (nI 1))).toNatClampNeg)), none], [.int (nI 0)], D, E)) rfl ?_
          cases h
          exact ev_ret hq rfl rfl ⟨rfl, rfl, rfl⟩
        · refine gv_n hq 2 (S' := (60, [some (.ref 114), some (.ref 19), some (.int a2), some (.long (E 115 (((nI 3) * a2)).toNatClampNeg)), none, some (.long (E 115 ((((nI 3) * a2) + (nI 1))).toNatClampNeg)), none], [.int (nI 1)], D, E)) rfl ?_
          cases h
          exact ev_ret hq rfl rfl ⟨rfl, rfl, rfl⟩
def g_Sightings_pewOf_114 (E : mx_E) (a1 : Int32) : Option (Int32) := (rk 60 ((nI 3) * a1) (some (((E 115 (((nI 3) * a1)).toNatClampNeg)).toInt32)))
set_option maxRecDepth 100000 in
set_option maxHeartbeats 4000000 in
theorem t_Sightings_pewOf_114 (X : ev_X) (d : Nat) (D : mx_D) (E : mx_E) (a1 : Int32) (v : Int32) (h : g_Sightings_pewOf_114 E a1 = some v) : ev X d 94 (0, [some (.ref 114), some (.int a1)], [], D, E) (qR (some (.int v)) D E) := by
  have hq : kq_m 94 = some kq_q94 := rfl
  unfold g_Sightings_pewOf_114 at h
  refine gv_n hq 5 (S' := (7, [some (.ref 114), some (.int a1)], [.int ((nI 3) * a1), .ref 115], D, E)) rfl ?_
  refine gv_la hq rfl rfl h 8 rfl (fun h => ?_)
  refine gv_n hq 1 (S' := (9, [some (.ref 114), some (.int a1)], [.int (((E 115 (((nI 3) * a1)).toNatClampNeg)).toInt32)], D, E)) rfl ?_
  cases h
  exact ev_ret hq rfl rfl ⟨rfl, rfl, rfl⟩
def g_Sightings_placeOf_114 (E : mx_E) (a1 : Int32) : Option (Int32) := (rk 60 (((nI 3) * a1) + (nI 1)) (some (((E 115 ((((nI 3) * a1) + (nI 1))).toNatClampNeg)).toInt32)))
set_option maxRecDepth 100000 in
set_option maxHeartbeats 4000000 in
theorem t_Sightings_placeOf_114 (X : ev_X) (d : Nat) (D : mx_D) (E : mx_E) (a1 : Int32) (v : Int32) (h : g_Sightings_placeOf_114 E a1 = some v) : ev X d 95 (0, [some (.ref 114), some (.int a1)], [], D, E) (qR (some (.int v)) D E) := by
  have hq : kq_m 95 = some kq_q95 := rfl
  unfold g_Sightings_placeOf_114 at h
  refine gv_n hq 7 (S' := (9, [some (.ref 114), some (.int a1)], [.int (((nI 3) * a1) + (nI 1)), .ref 115], D, E)) rfl ?_
  refine gv_la hq rfl rfl h 10 rfl (fun h => ?_)
  refine gv_n hq 1 (S' := (11, [some (.ref 114), some (.int a1)], [.int (((E 115 ((((nI 3) * a1) + (nI 1))).toNatClampNeg)).toInt32)], D, E)) rfl ?_
  cases h
  exact ev_ret hq rfl rfl ⟨rfl, rfl, rfl⟩
def b_Sightings_fitting_114_22 (F : Nat) (D : mx_D) (E : mx_E) (k22 : Int32 → Int32 → Int32 → Int32 → Int32 → Option (Int32)) (l2 : Int32) (l3 : Int32) (l4 : Int32) (l5 : Int32) (l6 : Int32) : Option (Int32) := (if (D 24 6) ≤ l6 then (some l5) else (Option.bind (g_Church_standingHigh F D l6 l2) (fun r4 => (rk 60 (((nI 3) * l3) + (nI 2)) (if (lg_cmp (((r4 + l4)).toInt64) (E 115 ((((nI 3) * l3) + (nI 2))).toNatClampNeg)) = 0 then (k22 l2 l3 l4 (l5 ||| ((nI 1) <<< (l6 &&& 31))) (l6 + (nI 1))) else (k22 l2 l3 l4 l5 (l6 + (nI 1))))))))
set_option maxRecDepth 100000 in
set_option maxHeartbeats 4000000 in
theorem tb_Sightings_fitting_114_22 (X : ev_X) (F : Nat) (d : Nat) (hd : 3 ≤ d + 1) (D : mx_D) (E : mx_E) (k22 : Int32 → Int32 → Int32 → Int32 → Int32 → Option (Int32)) (K22 : ∀ (l2 : Int32) (l3 : Int32) (l4 : Int32) (l5 : Int32) (l6 : Int32) (v : Int32), k22 l2 l3 l4 l5 l6 = some v → ev X (d + 1) 96 (22, [some (.ref 114), some (.ref 19), some (.int l2), some (.int l3), some (.int l4), some (.int l5), some (.int l6)], [], D, E) (qR (some (.int v)) D E)) (l2 : Int32) (l3 : Int32) (l4 : Int32) (l5 : Int32) (l6 : Int32) (v : Int32) (h : b_Sightings_fitting_114_22 F D E k22 l2 l3 l4 l5 l6 = some v) : ev X (d + 1) 96 (22, [some (.ref 114), some (.ref 19), some (.int l2), some (.int l3), some (.int l4), some (.int l5), some (.int l6)], [], D, E) (qR (some (.int v)) D E) := by
  have hq : kq_m 96 = some kq_q96 := rfl
  unfold b_Sightings_fitting_114_22 at h
  refine gv_n hq 4 (S' := (31, [some (.ref 114), some (.ref 19), some (.int l2), some (.int l3), some (.int l4), some (.int l5), some (.int l6)], [.int (D 24 6), .int l6], D, E)) rfl ?_
  refine gv_b hq rfl h 74 34 rfl rfl rfl (fun h => ?_) (fun h => ?_)
  · refine gv_n hq 1 (S' := (76, [some (.ref 114), some (.ref 19), some (.int l2), some (.int l3), some (.int l4), some (.int l5), some (.int l6)], [.int l5], D, E)) rfl ?_
    cases h
    exact ev_ret hq rfl rfl ⟨rfl, rfl, rfl⟩
  · refine gv_n hq 3 (S' := (38, [some (.ref 114), some (.ref 19), some (.int l2), some (.int l3), some (.int l4), some (.int l5), some (.int l6)], [.int l2, .int l6, .ref 19], D, E)) rfl ?_
    obtain ⟨r4, h1, h⟩ := Option.bind_eq_some_iff.mp h
    refine gv_d hq rfl rfl rfl rfl rfl (gv_dd (by omega) (t_Church_standingHigh X F (d - 1) (by omega) D E _ _ _ h1)) (S' := (41, [some (.ref 114), some (.ref 19), some (.int l2), some (.int l3), some (.int l4), some (.int l5), some (.int l6)], [.int r4], D, E)) rfl ?_
    refine gv_n hq 10 (S' := (54, [some (.ref 114), some (.ref 19), some (.int l2), some (.int l3), some (.int l4), some (.int l5), some (.int l6)], [.int (((nI 3) * l3) + (nI 2)), .ref 115, .long (((r4 + l4)).toInt64)], D, E)) rfl ?_
    refine gv_la hq rfl rfl h 55 rfl (fun h => ?_)
    refine gv_n hq 1 (S' := (56, [some (.ref 114), some (.ref 19), some (.int l2), some (.int l3), some (.int l4), some (.int l5), some (.int l6)], [.int (lg_cmp (((r4 + l4)).toInt64) (E 115 ((((nI 3) * l3) + (nI 2))).toNatClampNeg))], D, E)) rfl ?_
    refine gv_b hq rfl h 59 68 rfl rfl rfl (fun h => ?_) (fun h => ?_)
    · refine gv_n hq 8 (S' := (22, [some (.ref 114), some (.ref 19), some (.int l2), some (.int l3), some (.int l4), some (.int (l5 ||| ((nI 1) <<< (l6 &&& 31)))), some (.int (l6 + (nI 1)))], [], D, E)) rfl ?_
      exact gv_w (K22 _ _ _ _ _ _ h) (And.intro rfl (And.intro rfl (And.intro rfl (And.intro rfl (And.intro rfl (And.intro rfl (And.intro rfl trivial)))))))
    · refine gv_n hq 2 (S' := (22, [some (.ref 114), some (.ref 19), some (.int l2), some (.int l3), some (.int l4), some (.int l5), some (.int (l6 + (nI 1)))], [], D, E)) rfl ?_
      exact gv_w (K22 _ _ _ _ _ _ h) (And.intro rfl (And.intro rfl (And.intro rfl (And.intro rfl (And.intro rfl (And.intro rfl (And.intro rfl trivial)))))))
def g_Sightings_fitting_114_22 (F : Nat) (D : mx_D) (E : mx_E) : Nat → Int32 → Int32 → Int32 → Int32 → Int32 → Option (Int32) := it (fun k22 => b_Sightings_fitting_114_22 F D E k22) (fun _ _ _ _ _ => none)
set_option maxRecDepth 100000 in
set_option maxHeartbeats 4000000 in
theorem t_Sightings_fitting_114_22 (X : ev_X) (F : Nat) (d : Nat) (hd : 3 ≤ d + 1) (D : mx_D) (E : mx_E)  : ∀ (n : Nat) (l2 : Int32) (l3 : Int32) (l4 : Int32) (l5 : Int32) (l6 : Int32) (v : Int32), g_Sightings_fitting_114_22 F D E n l2 l3 l4 l5 l6 = some v → ev X (d + 1) 96 (22, [some (.ref 114), some (.ref 19), some (.int l2), some (.int l3), some (.int l4), some (.int l5), some (.int l6)], [], D, E) (qR (some (.int v)) D E) := by
  intro n
  induction n with
  | zero => intro l2 l3 l4 l5 l6 v h; cases h
  | succ n ih => intro l2 l3 l4 l5 l6 v h; exact tb_Sightings_fitting_114_22 X F d hd D E (g_Sightings_fitting_114_22 F D E n) ih l2 l3 l4 l5 l6 v h
def g_Sightings_fitting_114 (F : Nat) (D : mx_D) (E : mx_E) (a2 : Int32) (a3 : Int32) : Option (Int32) := (Option.bind (g_Sightings_pewOf_114 E a3) (fun r1 => (Option.bind (g_Sightings_placeOf_114 E a3) (fun r2 => (Option.bind (g_Church_floorAt D r1 r2) (fun r3 => (g_Sightings_fitting_114_22 F D E F a2 a3 r3 (nI 0) (nI 0))))))))
set_option maxRecDepth 100000 in
set_option maxHeartbeats 4000000 in
theorem t_Sightings_fitting_114 (X : ev_X) (F : Nat) (d : Nat) (hd : 3 ≤ d + 1) (D : mx_D) (E : mx_E) (a2 : Int32) (a3 : Int32) (v : Int32) (h : g_Sightings_fitting_114 F D E a2 a3 = some v) : ev X (d + 1) 96 (0, [some (.ref 114), some (.ref 19), some (.int a2), some (.int a3), none, none, none], [], D, E) (qR (some (.int v)) D E) := by
  have hq : kq_m 96 = some kq_q96 := rfl
  unfold g_Sightings_fitting_114 at h
  refine gv_n hq 3 (S' := (3, [some (.ref 114), some (.ref 19), some (.int a2), some (.int a3), none, none, none], [.int a3, .ref 114, .ref 19], D, E)) rfl ?_
  obtain ⟨r1, h1, h⟩ := Option.bind_eq_some_iff.mp h
  refine gv_d hq rfl rfl rfl rfl rfl ((t_Sightings_pewOf_114 X d D E _ _ h1)) (S' := (6, [some (.ref 114), some (.ref 19), some (.int a2), some (.int a3), none, none, none], [.int r1, .ref 19], D, E)) rfl ?_
  refine gv_n hq 2 (S' := (8, [some (.ref 114), some (.ref 19), some (.int a2), some (.int a3), none, none, none], [.int a3, .ref 114, .int r1, .ref 19], D, E)) rfl ?_
  obtain ⟨r2, h1, h⟩ := Option.bind_eq_some_iff.mp h
  refine gv_d hq rfl rfl rfl rfl rfl ((t_Sightings_placeOf_114 X d D E _ _ h1)) (S' := (11, [some (.ref 114), some (.ref 19), some (.int a2), some (.int a3), none, none, none], [.int r2, .int r1, .ref 19], D, E)) rfl ?_
  obtain ⟨r3, h1, h⟩ := Option.bind_eq_some_iff.mp h
  refine gv_d hq rfl rfl rfl rfl rfl (gv_dd (by omega) (t_Church_floorAt X (d - 1) (by omega) D E _ _ _ h1)) (S' := (14, [some (.ref 114), some (.ref 19), some (.int a2), some (.int a3), none, none, none], [.int r3], D, E)) rfl ?_
  refine gv_n hq 5 (S' := (22, [some (.ref 114), some (.ref 19), some (.int a2), some (.int a3), some (.int r3), some (.int (nI 0)), some (.int (nI 0))], [], D, E)) rfl ?_
  exact gv_w (t_Sightings_fitting_114_22 X F d hd D E F _ _ _ _ _ _ h) (And.intro rfl (And.intro rfl (And.intro rfl (And.intro rfl (And.intro rfl (And.intro rfl (And.intro rfl trivial)))))))
def b_Sightings_take_114_38 (F : Nat) (E : mx_E) (k38 : Int32 → Int32 → Int32 → mx_D → Option (Int32 × mx_D)) (l3 : Int32) (l4 : Int32) (l5 : Int32) (D : mx_D) : Option (Int32 × mx_D) := (if (D 57 0) ≤ l5 then (some ((nI 1), D)) else (Option.bind (g_Sightings_isPlace_114 D E l5) (fun r1 => (if r1 = 0 then (some ((nI 0), D)) else (Option.bind (g_Sightings_pewOf_114 E l5) (fun r2 => (Option.bind (g_Sightings_placeOf_114 E l5) (fun r3 => (if (l4 &&& ((nI 1) <<< (((r2 * (nI 5)) + r3) &&& 31))) = 0 then (if (nI 8) ≤ l5 then (k38 l3 (l4 ||| ((nI 1) <<< (((r2 * (nI 5)) + r3) &&& 31))) (l5 + (nI 1)) D) else (Option.bind (g_Sightings_fitting_114 F D E l3 l5) (fun r4 => (rk 8 l5 (k38 l3 (l4 ||| ((nI 1) <<< (((r2 * (nI 5)) + r3) &&& 31))) (l5 + (nI 1)) (sD D 58 (l5).toNatClampNeg r4)))))) else (some ((nI 0), D)))))))))))
set_option maxRecDepth 100000 in
set_option maxHeartbeats 4000000 in
theorem tb_Sightings_take_114_38 (X : ev_X) (F : Nat) (d : Nat) (hd : 4 ≤ d + 1) (E : mx_E) (k38 : Int32 → Int32 → Int32 → mx_D → Option (Int32 × mx_D)) (K38 : ∀ (l3 : Int32) (l4 : Int32) (l5 : Int32) (D : mx_D) (v : Int32 × mx_D), k38 l3 l4 l5 D = some v → ev X (d + 1) 92 (38, [some (.ref 57), some (.ref 114), some (.ref 19), some (.int l3), some (.int l4), some (.int l5), none], [], D, E) (qR (some (.int v.1)) v.2 E)) (l3 : Int32) (l4 : Int32) (l5 : Int32) (D : mx_D) (v : Int32 × mx_D) (h : b_Sightings_take_114_38 F E k38 l3 l4 l5 D = some v) : ev X (d + 1) 92 (38, [some (.ref 57), some (.ref 114), some (.ref 19), some (.int l3), some (.int l4), some (.int l5), none], [], D, E) (qR (some (.int v.1)) v.2 E) := by
  have hq : kq_m 92 = some kq_q92 := rfl
  unfold b_Sightings_take_114_38 at h
  refine gv_n hq 3 (S' := (44, [some (.ref 57), some (.ref 114), some (.ref 19), some (.int l3), some (.int l4), some (.int l5), none], [.int (D 57 0), .int l5], D, E)) rfl ?_
  refine gv_b hq rfl h 123 47 rfl rfl rfl (fun h => ?_) (fun h => ?_)
  · refine gv_n hq 1 (S' := (124, [some (.ref 57), some (.ref 114), some (.ref 19), some (.int l3), some (.int l4), some (.int l5), none], [.int (nI 1)], D, E)) rfl ?_
    cases h
    exact ev_ret hq rfl rfl ⟨rfl, rfl, rfl⟩
  · refine gv_n hq 3 (S' := (51, [some (.ref 57), some (.ref 114), some (.ref 19), some (.int l3), some (.int l4), some (.int l5), none], [.int l5, .ref 19, .ref 114], D, E)) rfl ?_
    obtain ⟨r1, h1, h⟩ := Option.bind_eq_some_iff.mp h
    refine gv_d hq rfl rfl rfl rfl rfl ((t_Sightings_isPlace_114 X d D E _ _ h1)) (S' := (54, [some (.ref 57), some (.ref 114), some (.ref 19), some (.int l3), some (.int l4), some (.int l5), none], [.int r1], D, E)) rfl ?_
    refine gv_b hq rfl h 57 59 rfl rfl rfl (fun h => ?_) (fun h => ?_)
    · refine gv_n hq 1 (S' := (58, [some (.ref 57), some (.ref 114), some (.ref 19), some (.int l3), some (.int l4), some (.int l5), none], [.int (nI 0)], D, E)) rfl ?_
      cases h
      exact ev_ret hq rfl rfl ⟨rfl, rfl, rfl⟩
    · refine gv_n hq 3 (S' := (63, [some (.ref 57), some (.ref 114), some (.ref 19), some (.int l3), some (.int l4), some (.int l5), none], [.int l5, .ref 114, .int (nI 1)], D, E)) rfl ?_
      obtain ⟨r2, h1, h⟩ := Option.bind_eq_some_iff.mp h
      refine gv_d hq rfl rfl rfl rfl rfl ((t_Sightings_pewOf_114 X d D E _ _ h1)) (S' := (66, [some (.ref 57), some (.ref 114), some (.ref 19), some (.int l3), some (.int l4), some (.int l5), none], [.int r2, .int (nI 1)], D, E)) rfl ?_
      refine gv_n hq 4 (S' := (71, [some (.ref 57), some (.ref 114), some (.ref 19), some (.int l3), some (.int l4), some (.int l5), none], [.int l5, .ref 114, .int (r2 * (nI 5)), .int (nI 1)], D, E)) rfl ?_
      obtain ⟨r3, h1, h⟩ := Option.bind_eq_some_iff.mp h
      refine gv_d hq rfl rfl rfl rfl rfl ((t_Sightings_placeOf_114 X d D E _ _ h1)) (S' := (74, [some (.ref 57), some (.ref 114), some (.ref 19), some (.int l3), some (.int l4), some (.int l5), none], [.int r3, .int (r2 * (nI 5)), .int (nI 1)], D, E)) rfl ?_
      refine gv_n hq 6 (S' := (83, [some (.ref 57), some (.ref 114), some (.ref 19), some (.int l3), some (.int l4), some (.int l5), some (.int ((nI 1) <<< (((r2 * (nI 5)) + r3) &&& 31)))], [.int (l4 &&& ((nI 1) <<< (((r2 * (nI 5)) + r3) &&& 31)))], D, E)) rfl ?_
      refine gv_b hq rfl h 88 86 rfl rfl rfl (fun h => ?_) (fun h => ?_)
      · refine gv_n hq 6 (S' := (99, [some (.ref 57), some (.ref 114), some (.ref 19), some (.int l3), some (.int (l4 ||| ((nI 1) <<< (((r2 * (nI 5)) + r3) &&& 31)))), some (.int l5), some (.int ((nI 1) <<< (((r2 * (nI 5)) + r3) &&& 31)))], [.int (nI 8), .int l5], D, E)) rfl ?_
        refine gv_b hq rfl h 117 102 rfl rfl rfl (fun h => ?_) (fun h => ?_)
        · refine gv_n hq 2 (S' := (38, [some (.ref 57), some (.ref 114), some (.ref 19), some (.int l3), some (.int (l4 ||| ((nI 1) <<< (((r2 * (nI 5)) + r3) &&& 31)))), some (.int (l5 + (nI 1))), some (.int ((nI 1) <<< (((r2 * (nI 5)) + r3) &&& 31)))], [], D, E)) rfl ?_
          exact gv_w (K38 _ _ _ _ _ h) (And.intro rfl (And.intro rfl (And.intro rfl (And.intro rfl (And.intro rfl (And.intro rfl trivial))))))
        · refine gv_n hq 7 (S' := (113, [some (.ref 57), some (.ref 114), some (.ref 19), some (.int l3), some (.int (l4 ||| ((nI 1) <<< (((r2 * (nI 5)) + r3) &&& 31)))), some (.int l5), some (.int ((nI 1) <<< (((r2 * (nI 5)) + r3) &&& 31)))], [.int l5, .int l3, .ref 19, .ref 114, .int l5, .ref 58], D, E)) rfl ?_
          obtain ⟨r4, h1, h⟩ := Option.bind_eq_some_iff.mp h
          refine gv_d hq rfl rfl rfl rfl rfl (gv_dd (by omega) (t_Sightings_fitting_114 X F (d - 1) (by omega) D E _ _ _ h1)) (S' := (116, [some (.ref 57), some (.ref 114), some (.ref 19), some (.int l3), some (.int (l4 ||| ((nI 1) <<< (((r2 * (nI 5)) + r3) &&& 31)))), some (.int l5), some (.int ((nI 1) <<< (((r2 * (nI 5)) + r3) &&& 31)))], [.int r4, .int l5, .ref 58], D, E)) rfl ?_
          refine gv_is hq rfl rfl h 117 rfl (fun h => ?_)
          refine gv_n hq 2 (S' := (38, [some (.ref 57), some (.ref 114), some (.ref 19), some (.int l3), some (.int (l4 ||| ((nI 1) <<< (((r2 * (nI 5)) + r3) &&& 31)))), some (.int (l5 + (nI 1))), some (.int ((nI 1) <<< (((r2 * (nI 5)) + r3) &&& 31)))], [], (sD D 58 (l5).toNatClampNeg r4), E)) rfl ?_
          exact gv_w (K38 _ _ _ _ _ h) (And.intro rfl (And.intro rfl (And.intro rfl (And.intro rfl (And.intro rfl (And.intro rfl trivial))))))
      · refine gv_n hq 1 (S' := (87, [some (.ref 57), some (.ref 114), some (.ref 19), some (.int l3), some (.int l4), some (.int l5), some (.int ((nI 1) <<< (((r2 * (nI 5)) + r3) &&& 31)))], [.int (nI 0)], D, E)) rfl ?_
        cases h
        exact ev_ret hq rfl rfl ⟨rfl, rfl, rfl⟩
def g_Sightings_take_114_38 (F : Nat) (E : mx_E) : Nat → Int32 → Int32 → Int32 → mx_D → Option (Int32 × mx_D) := it (fun k38 => b_Sightings_take_114_38 F E k38) (fun _ _ _ _ => none)
set_option maxRecDepth 100000 in
set_option maxHeartbeats 4000000 in
theorem t_Sightings_take_114_38 (X : ev_X) (F : Nat) (d : Nat) (hd : 4 ≤ d + 1) (E : mx_E)  : ∀ (n : Nat) (l3 : Int32) (l4 : Int32) (l5 : Int32) (D : mx_D) (v : Int32 × mx_D), g_Sightings_take_114_38 F E n l3 l4 l5 D = some v → ev X (d + 1) 92 (38, [some (.ref 57), some (.ref 114), some (.ref 19), some (.int l3), some (.int l4), some (.int l5), none], [], D, E) (qR (some (.int v.1)) v.2 E) := by
  intro n
  induction n with
  | zero => intro l3 l4 l5 D v h; cases h
  | succ n ih => intro l3 l4 l5 D v h; exact tb_Sightings_take_114_38 X F d hd E (g_Sightings_take_114_38 F E n) ih l3 l4 l5 D v h
def g_Sightings_take_114 (F : Nat) (E : mx_E) (a3 : Int32) (D : mx_D) : Option (Int32 × mx_D) := (if ((D 114 3) - (D 114 3) / (nI 3) * (nI 3)) = 0 then (g_Sightings_take_114_38 F E F a3 (nI 0) (nI 0) (sD (sD D 57 0 ((D 114 3) / (nI 3))) 57 1 ((sD D 57 0 ((D 114 3) / (nI 3))) 24 6))) else (some ((nI 0), D)))
set_option maxRecDepth 100000 in
set_option maxHeartbeats 4000000 in
theorem t_Sightings_take_114 (X : ev_X) (F : Nat) (d : Nat) (hd : 4 ≤ d + 1) (E : mx_E) (a3 : Int32) (D : mx_D) (v : Int32 × mx_D) (h : g_Sightings_take_114 F E a3 D = some v) : ev X (d + 1) 92 (0, [some (.ref 57), some (.ref 114), some (.ref 19), some (.int a3), none, none, none], [], D, E) (qR (some (.int v.1)) v.2 E) := by
  have hq : kq_m 92 = some kq_q92 := rfl
  unfold g_Sightings_take_114 at h
  refine gv_n hq 4 (S' := (6, [some (.ref 57), some (.ref 114), some (.ref 19), some (.int a3), none, none, none], [.int ((D 114 3) - (D 114 3) / (nI 3) * (nI 3))], D, E)) rfl ?_
  refine gv_b hq rfl h 11 9 rfl rfl rfl (fun h => ?_) (fun h => ?_)
  · refine gv_n hq 15 (S' := (38, [some (.ref 57), some (.ref 114), some (.ref 19), some (.int a3), some (.int (nI 0)), some (.int (nI 0)), none], [], (sD (sD D 57 0 ((D 114 3) / (nI 3))) 57 1 ((sD D 57 0 ((D 114 3) / (nI 3))) 24 6)), E)) rfl ?_
    exact gv_w (t_Sightings_take_114_38 X F d hd E F _ _ _ _ _ h) (And.intro rfl (And.intro rfl (And.intro rfl (And.intro rfl (And.intro rfl (And.intro rfl trivial))))))
  · refine gv_n hq 1 (S' := (10, [some (.ref 57), some (.ref 114), some (.ref 19), some (.int a3), none, none, none], [.int (nI 0)], D, E)) rfl ?_
    cases h
    exact ev_ret hq rfl rfl ⟨rfl, rfl, rfl⟩
def g_X_lookAt (F : Nat) (E : mx_E) (a1 : Int32) (a2 : Int32) (D : mx_D) : Option (Int32 × mx_D) := (if (g_X_isSlot a1) = 0 then (some ((-2 : Int32), D)) else (if (g_X_canAsk D a2) = 0 then (some ((-2 : Int32), D)) else (if a1 = (nI 0) then (if (D 108 1) = 0 then (some ((-6 : Int32), D)) else (if a1 = (nI 0) then (Option.bind (g_Sightings_take_108 F E a2 D) (fun r1 => (if r1.1 = 0 then (some ((-2 : Int32), r1.2)) else (some ((nI 0), r1.2))))) else (if a1 = (nI 1) then (Option.bind (g_Sightings_take_110 F E a2 D) (fun r2 => (if r2.1 = 0 then (some ((-2 : Int32), r2.2)) else (some ((nI 0), r2.2))))) else (if a1 = (nI 2) then (Option.bind (g_Sightings_take_112 F E a2 D) (fun r3 => (if r3.1 = 0 then (some ((-2 : Int32), r3.2)) else (some ((nI 0), r3.2))))) else (if a1 = (nI 3) then (Option.bind (g_Sightings_take_114 F E a2 D) (fun r4 => (if r4.1 = 0 then (some ((-2 : Int32), r4.2)) else (some ((nI 0), r4.2))))) else none))))) else (if a1 = (nI 1) then (if (D 110 1) = 0 then (some ((-6 : Int32), D)) else (if a1 = (nI 0) then (Option.bind (g_Sightings_take_108 F E a2 D) (fun r5 => (if r5.1 = 0 then (some ((-2 : Int32), r5.2)) else (some ((nI 0), r5.2))))) else (if a1 = (nI 1) then (Option.bind (g_Sightings_take_110 F E a2 D) (fun r6 => (if r6.1 = 0 then (some ((-2 : Int32), r6.2)) else (some ((nI 0), r6.2))))) else (if a1 = (nI 2) then (Option.bind (g_Sightings_take_112 F E a2 D) (fun r7 => (if r7.1 = 0 then (some ((-2 : Int32), r7.2)) else (some ((nI 0), r7.2))))) else (if a1 = (nI 3) then (Option.bind (g_Sightings_take_114 F E a2 D) (fun r8 => (if r8.1 = 0 then (some ((-2 : Int32), r8.2)) else (some ((nI 0), r8.2))))) else none))))) else (if a1 = (nI 2) then (if (D 112 1) = 0 then (some ((-6 : Int32), D)) else (if a1 = (nI 0) then (Option.bind (g_Sightings_take_108 F E a2 D) (fun r9 => (if r9.1 = 0 then (some ((-2 : Int32), r9.2)) else (some ((nI 0), r9.2))))) else (if a1 = (nI 1) then (Option.bind (g_Sightings_take_110 F E a2 D) (fun r10 => (if r10.1 = 0 then (some ((-2 : Int32), r10.2)) else (some ((nI 0), r10.2))))) else (if a1 = (nI 2) then (Option.bind (g_Sightings_take_112 F E a2 D) (fun r11 => (if r11.1 = 0 then (some ((-2 : Int32), r11.2)) else (some ((nI 0), r11.2))))) else (if a1 = (nI 3) then (Option.bind (g_Sightings_take_114 F E a2 D) (fun r12 => (if r12.1 = 0 then (some ((-2 : Int32), r12.2)) else (some ((nI 0), r12.2))))) else none))))) else (if a1 = (nI 3) then (if (D 114 1) = 0 then (some ((-6 : Int32), D)) else (if a1 = (nI 0) then (Option.bind (g_Sightings_take_108 F E a2 D) (fun r13 => (if r13.1 = 0 then (some ((-2 : Int32), r13.2)) else (some ((nI 0), r13.2))))) else (if a1 = (nI 1) then (Option.bind (g_Sightings_take_110 F E a2 D) (fun r14 => (if r14.1 = 0 then (some ((-2 : Int32), r14.2)) else (some ((nI 0), r14.2))))) else (if a1 = (nI 2) then (Option.bind (g_Sightings_take_112 F E a2 D) (fun r15 => (if r15.1 = 0 then (some ((-2 : Int32), r15.2)) else (some ((nI 0), r15.2))))) else (if a1 = (nI 3) then (Option.bind (g_Sightings_take_114 F E a2 D) (fun r16 => (if r16.1 = 0 then (some ((-2 : Int32), r16.2)) else (some ((nI 0), r16.2))))) else none))))) else none))))))
set_option maxRecDepth 100000 in
set_option maxHeartbeats 4000000 in
theorem t_X_lookAt (X : ev_X) (F : Nat) (d : Nat) (hd : 5 ≤ d + 1) (E : mx_E) (a1 : Int32) (a2 : Int32) (D : mx_D) (v : Int32 × mx_D) (h : g_X_lookAt F E a1 a2 D = some v) : ev X (d + 1) 167 (0, [some (.ref 0), some (.int a1), some (.int a2)], [], D, E) (qR (some (.int v.1)) v.2 E) := by
  have hq : kq_m 167 = some kq_q167 := rfl
  unfold g_X_lookAt at h
  refine gv_n hq 1 (S' := (1, [some (.ref 0), some (.int a1), some (.int a2)], [.int a1], D, E)) rfl ?_
  refine gv_d hq rfl rfl rfl rfl rfl ((t_X_isSlot X d D E _ _ rfl)) (S' := (4, [some (.ref 0), some (.int a1), some (.int a2)], [.int (g_X_isSlot a1)], D, E)) rfl ?_
  refine gv_b hq rfl h 15 7 rfl rfl rfl (fun h => ?_) (fun h => ?_)
  · refine gv_n hq 1 (S' := (17, [some (.ref 0), some (.int a1), some (.int a2)], [.int (-2 : Int32)], D, E)) rfl ?_
    cases h
    exact ev_ret hq rfl rfl ⟨rfl, rfl, rfl⟩
  · refine gv_n hq 2 (S' := (9, [some (.ref 0), some (.int a1), some (.int a2)], [.int a2, .ref 0], D, E)) rfl ?_
    refine gv_d hq rfl rfl rfl rfl rfl (gv_dd (by omega) (t_X_canAsk X (d - 1) (by omega) D E _ _ rfl)) (S' := (12, [some (.ref 0), some (.int a1), some (.int a2)], [.int (g_X_canAsk D a2)], D, E)) rfl ?_
    refine gv_b hq rfl h 15 18 rfl rfl rfl (fun h => ?_) (fun h => ?_)
    · refine gv_n hq 1 (S' := (17, [some (.ref 0), some (.int a1), some (.int a2)], [.int (-2 : Int32)], D, E)) rfl ?_
      cases h
      exact ev_ret hq rfl rfl ⟨rfl, rfl, rfl⟩
    · refine gv_n hq 3 (S' := (23, [some (.ref 0), some (.int a1), some (.int a2)], [.int a1, .ref 62], D, E)) rfl ?_
      refine gv_if h (fun c0 h => ?_) (fun c0 h => ?_)
      · refine ev_ins hq rfl (S' := (24, [some (.ref 0), some (.int a1), some (.int a2)], [.ref 108], D, E)) (gv_sw (fun z => ((23, [some (.ref 0), some (.int a1), some (.int a2)], .int z :: [.ref 62], D, E) : mx_S)) c0 rfl) ?_
        refine gv_n hq 1 (S' := (27, [some (.ref 0), some (.int a1), some (.int a2)], [.int (D 108 1)], D, E)) rfl ?_
        refine gv_b hq rfl h 30 33 rfl rfl rfl (fun h => ?_) (fun h => ?_)
        · refine gv_n hq 1 (S' := (32, [some (.ref 0), some (.int a1), some (.int a2)], [.int (-6 : Int32)], D, E)) rfl ?_
          cases h
          exact ev_ret hq rfl rfl ⟨rfl, rfl, rfl⟩
        · refine gv_n hq 5 (S' := (42, [some (.ref 0), some (.int a1), some (.int a2)], [.int a1, .ref 62, .ref 57], D, E)) rfl ?_
          refine gv_if h (fun c0 h => ?_) (fun c0 h => ?_)
          · refine ev_ins hq rfl (S' := (43, [some (.ref 0), some (.int a1), some (.int a2)], [.ref 108, .ref 57], D, E)) (gv_sw (fun z => ((42, [some (.ref 0), some (.int a1), some (.int a2)], .int z :: [.ref 62, .ref 57], D, E) : mx_S)) c0 rfl) ?_
            refine gv_n hq 3 (S' := (48, [some (.ref 0), some (.int a1), some (.int a2)], [.int a2, .ref 19, .ref 108, .ref 57], D, E)) rfl ?_
            obtain ⟨r1, h1, h⟩ := Option.bind_eq_some_iff.mp h
            refine gv_d hq rfl rfl rfl rfl rfl (gv_dd (by omega) (t_Sightings_take_108 X F (d - 1) (by omega) E _ _ _ h1)) (S' := (51, [some (.ref 0), some (.int a1), some (.int a2)], [.int r1.1], r1.2, E)) rfl ?_
            refine gv_b hq rfl h 58 54 rfl rfl rfl (fun h => ?_) (fun h => ?_)
            · refine gv_n hq 1 (S' := (60, [some (.ref 0), some (.int a1), some (.int a2)], [.int (-2 : Int32)], r1.2, E)) rfl ?_
              cases h
              exact ev_ret hq rfl rfl ⟨rfl, rfl, rfl⟩
            · refine gv_n hq 2 (S' := (60, [some (.ref 0), some (.int a1), some (.int a2)], [.int (nI 0)], r1.2, E)) rfl ?_
              cases h
              exact ev_ret hq rfl rfl ⟨rfl, rfl, rfl⟩
          · refine gv_if h (fun c1 h => ?_) (fun c1 h => ?_)
            · refine ev_ins hq rfl (S' := (43, [some (.ref 0), some (.int a1), some (.int a2)], [.ref 110, .ref 57], D, E)) (gv_sw (fun z => ((42, [some (.ref 0), some (.int a1), some (.int a2)], .int z :: [.ref 62, .ref 57], D, E) : mx_S)) c1 rfl) ?_
              refine gv_n hq 3 (S' := (48, [some (.ref 0), some (.int a1), some (.int a2)], [.int a2, .ref 19, .ref 110, .ref 57], D, E)) rfl ?_
              obtain ⟨r2, h1, h⟩ := Option.bind_eq_some_iff.mp h
              refine gv_d hq rfl rfl rfl rfl rfl (gv_dd (by omega) (t_Sightings_take_110 X F (d - 1) (by omega) E _ _ _ h1)) (S' := (51, [some (.ref 0), some (.int a1), some (.int a2)], [.int r2.1], r2.2, E)) rfl ?_
              refine gv_b hq rfl h 58 54 rfl rfl rfl (fun h => ?_) (fun h => ?_)
              · refine gv_n hq 1 (S' := (60, [some (.ref 0), some (.int a1), some (.int a2)], [.int (-2 : Int32)], r2.2, E)) rfl ?_
                cases h
                exact ev_ret hq rfl rfl ⟨rfl, rfl, rfl⟩
              · refine gv_n hq 2 (S' := (60, [some (.ref 0), some (.int a1), some (.int a2)], [.int (nI 0)], r2.2, E)) rfl ?_
                cases h
                exact ev_ret hq rfl rfl ⟨rfl, rfl, rfl⟩
            · refine gv_if h (fun c2 h => ?_) (fun c2 h => ?_)
              · refine ev_ins hq rfl (S' := (43, [some (.ref 0), some (.int a1), some (.int a2)], [.ref 112, .ref 57], D, E)) (gv_sw (fun z => ((42, [some (.ref 0), some (.int a1), some (.int a2)], .int z :: [.ref 62, .ref 57], D, E) : mx_S)) c2 rfl) ?_
                refine gv_n hq 3 (S' := (48, [some (.ref 0), some (.int a1), some (.int a2)], [.int a2, .ref 19, .ref 112, .ref 57], D, E)) rfl ?_
                obtain ⟨r3, h1, h⟩ := Option.bind_eq_some_iff.mp h
                refine gv_d hq rfl rfl rfl rfl rfl (gv_dd (by omega) (t_Sightings_take_112 X F (d - 1) (by omega) E _ _ _ h1)) (S' := (51, [some (.ref 0), some (.int a1), some (.int a2)], [.int r3.1], r3.2, E)) rfl ?_
                refine gv_b hq rfl h 58 54 rfl rfl rfl (fun h => ?_) (fun h => ?_)
                · refine gv_n hq 1 (S' := (60, [some (.ref 0), some (.int a1), some (.int a2)], [.int (-2 : Int32)], r3.2, E)) rfl ?_
                  cases h
                  exact ev_ret hq rfl rfl ⟨rfl, rfl, rfl⟩
                · refine gv_n hq 2 (S' := (60, [some (.ref 0), some (.int a1), some (.int a2)], [.int (nI 0)], r3.2, E)) rfl ?_
                  cases h
                  exact ev_ret hq rfl rfl ⟨rfl, rfl, rfl⟩
              · refine gv_if h (fun c3 h => ?_) (fun c3 h => ?_)
                · refine ev_ins hq rfl (S' := (43, [some (.ref 0), some (.int a1), some (.int a2)], [.ref 114, .ref 57], D, E)) (gv_sw (fun z => ((42, [some (.ref 0), some (.int a1), some (.int a2)], .int z :: [.ref 62, .ref 57], D, E) : mx_S)) c3 rfl) ?_
                  refine gv_n hq 3 (S' := (48, [some (.ref 0), some (.int a1), some (.int a2)], [.int a2, .ref 19, .ref 114, .ref 57], D, E)) rfl ?_
                  obtain ⟨r4, h1, h⟩ := Option.bind_eq_some_iff.mp h
                  refine gv_d hq rfl rfl rfl rfl rfl (gv_dd (by omega) (t_Sightings_take_114 X F (d - 1) (by omega) E _ _ _ h1)) (S' := (51, [some (.ref 0), some (.int a1), some (.int a2)], [.int r4.1], r4.2, E)) rfl ?_
                  refine gv_b hq rfl h 58 54 rfl rfl rfl (fun h => ?_) (fun h => ?_)
                  · refine gv_n hq 1 (S' := (60, [some (.ref 0), some (.int a1), some (.int a2)], [.int (-2 : Int32)], r4.2, E)) rfl ?_
                    cases h
                    exact ev_ret hq rfl rfl ⟨rfl, rfl, rfl⟩
                  · refine gv_n hq 2 (S' := (60, [some (.ref 0), some (.int a1), some (.int a2)], [.int (nI 0)], r4.2, E)) rfl ?_
                    cases h
                    exact ev_ret hq rfl rfl ⟨rfl, rfl, rfl⟩
                · cases h
      · refine gv_if h (fun c1 h => ?_) (fun c1 h => ?_)
        · refine ev_ins hq rfl (S' := (24, [some (.ref 0), some (.int a1), some (.int a2)], [.ref 110], D, E)) (gv_sw (fun z => ((23, [some (.ref 0), some (.int a1), some (.int a2)], .int z :: [.ref 62], D, E) : mx_S)) c1 rfl) ?_
          refine gv_n hq 1 (S' := (27, [some (.ref 0), some (.int a1), some (.int a2)], [.int (D 110 1)], D, E)) rfl ?_
          refine gv_b hq rfl h 30 33 rfl rfl rfl (fun h => ?_) (fun h => ?_)
          · refine gv_n hq 1 (S' := (32, [some (.ref 0), some (.int a1), some (.int a2)], [.int (-6 : Int32)], D, E)) rfl ?_
            cases h
            exact ev_ret hq rfl rfl ⟨rfl, rfl, rfl⟩
          · refine gv_n hq 5 (S' := (42, [some (.ref 0), some (.int a1), some (.int a2)], [.int a1, .ref 62, .ref 57], D, E)) rfl ?_
            refine gv_if h (fun c0 h => ?_) (fun c0 h => ?_)
            · refine ev_ins hq rfl (S' := (43, [some (.ref 0), some (.int a1), some (.int a2)], [.ref 108, .ref 57], D, E)) (gv_sw (fun z => ((42, [some (.ref 0), some (.int a1), some (.int a2)], .int z :: [.ref 62, .ref 57], D, E) : mx_S)) c0 rfl) ?_
              refine gv_n hq 3 (S' := (48, [some (.ref 0), some (.int a1), some (.int a2)], [.int a2, .ref 19, .ref 108, .ref 57], D, E)) rfl ?_
              obtain ⟨r5, h1, h⟩ := Option.bind_eq_some_iff.mp h
              refine gv_d hq rfl rfl rfl rfl rfl (gv_dd (by omega) (t_Sightings_take_108 X F (d - 1) (by omega) E _ _ _ h1)) (S' := (51, [some (.ref 0), some (.int a1), some (.int a2)], [.int r5.1], r5.2, E)) rfl ?_
              refine gv_b hq rfl h 58 54 rfl rfl rfl (fun h => ?_) (fun h => ?_)
              · refine gv_n hq 1 (S' := (60, [some (.ref 0), some (.int a1), some (.int a2)], [.int (-2 : Int32)], r5.2, E)) rfl ?_
                cases h
                exact ev_ret hq rfl rfl ⟨rfl, rfl, rfl⟩
              · refine gv_n hq 2 (S' := (60, [some (.ref 0), some (.int a1), some (.int a2)], [.int (nI 0)], r5.2, E)) rfl ?_
                cases h
                exact ev_ret hq rfl rfl ⟨rfl, rfl, rfl⟩
            · refine gv_if h (fun c1 h => ?_) (fun c1 h => ?_)
              · refine ev_ins hq rfl (S' := (43, [some (.ref 0), some (.int a1), some (.int a2)], [.ref 110, .ref 57], D, E)) (gv_sw (fun z => ((42, [some (.ref 0), some (.int a1), some (.int a2)], .int z :: [.ref 62, .ref 57], D, E) : mx_S)) c1 rfl) ?_
                refine gv_n hq 3 (S' := (48, [some (.ref 0), some (.int a1), some (.int a2)], [.int a2, .ref 19, .ref 110, .ref 57], D, E)) rfl ?_
                obtain ⟨r6, h1, h⟩ := Option.bind_eq_some_iff.mp h
                refine gv_d hq rfl rfl rfl rfl rfl (gv_dd (by omega) (t_Sightings_take_110 X F (d - 1) (by omega) E _ _ _ h1)) (S' := (51, [some (.ref 0), some (.int a1), some (.int a2)], [.int r6.1], r6.2, E)) rfl ?_
                refine gv_b hq rfl h 58 54 rfl rfl rfl (fun h => ?_) (fun h => ?_)
                · refine gv_n hq 1 (S' := (60, [some (.ref 0), some (.int a1), some (.int a2)], [.int (-2 : Int32)], r6.2, E)) rfl ?_
                  cases h
                  exact ev_ret hq rfl rfl ⟨rfl, rfl, rfl⟩
                · refine gv_n hq 2 (S' := (60, [some (.ref 0), some (.int a1), some (.int a2)], [.int (nI 0)], r6.2, E)) rfl ?_
                  cases h
                  exact ev_ret hq rfl rfl ⟨rfl, rfl, rfl⟩
              · refine gv_if h (fun c2 h => ?_) (fun c2 h => ?_)
                · refine ev_ins hq rfl (S' := (43, [some (.ref 0), some (.int a1), some (.int a2)], [.ref 112, .ref 57], D, E)) (gv_sw (fun z => ((42, [some (.ref 0), some (.int a1), some (.int a2)], .int z :: [.ref 62, .ref 57], D, E) : mx_S)) c2 rfl) ?_
                  refine gv_n hq 3 (S' := (48, [some (.ref 0), some (.int a1), some (.int a2)], [.int a2, .ref 19, .ref 112, .ref 57], D, E)) rfl ?_
                  obtain ⟨r7, h1, h⟩ := Option.bind_eq_some_iff.mp h
                  refine gv_d hq rfl rfl rfl rfl rfl (gv_dd (by omega) (t_Sightings_take_112 X F (d - 1) (by omega) E _ _ _ h1)) (S' := (51, [some (.ref 0), some (.int a1), some (.int a2)], [.int r7.1], r7.2, E)) rfl ?_
                  refine gv_b hq rfl h 58 54 rfl rfl rfl (fun h => ?_) (fun h => ?_)
                  · refine gv_n hq 1 (S' := (60, [some (.ref 0), some (.int a1), some (.int a2)], [.int (-2 : Int32)], r7.2, E)) rfl ?_
                    cases h
                    exact ev_ret hq rfl rfl ⟨rfl, rfl, rfl⟩
                  · refine gv_n hq 2 (S' := (60, [some (.ref 0), some (.int a1), some (.int a2)], [.int (nI 0)], r7.2, E)) rfl ?_
                    cases h
                    exact ev_ret hq rfl rfl ⟨rfl, rfl, rfl⟩
                · refine gv_if h (fun c3 h => ?_) (fun c3 h => ?_)
                  · refine ev_ins hq rfl (S' := (43, [some (.ref 0), some (.int a1), some (.int a2)], [.ref 114, .ref 57], D, E)) (gv_sw (fun z => ((42, [some (.ref 0), some (.int a1), some (.int a2)], .int z :: [.ref 62, .ref 57], D, E) : mx_S)) c3 rfl) ?_
                    refine gv_n hq 3 (S' := (48, [some (.ref 0), some (.int a1), some (.int a2)], [.int a2, .ref 19, .ref 114, .ref 57], D, E)) rfl ?_
                    obtain ⟨r8, h1, h⟩ := Option.bind_eq_some_iff.mp h
                    refine gv_d hq rfl rfl rfl rfl rfl (gv_dd (by omega) (t_Sightings_take_114 X F (d - 1) (by omega) E _ _ _ h1)) (S' := (51, [some (.ref 0), some (.int a1), some (.int a2)], [.int r8.1], r8.2, E)) rfl ?_
                    refine gv_b hq rfl h 58 54 rfl rfl rfl (fun h => ?_) (fun h => ?_)
                    · refine gv_n hq 1 (S' := (60, [some (.ref 0), some (.int a1), some (.int a2)], [.int (-2 : Int32)], r8.2, E)) rfl ?_
                      cases h
                      exact ev_ret hq rfl rfl ⟨rfl, rfl, rfl⟩
                    · refine gv_n hq 2 (S' := (60, [some (.ref 0), some (.int a1), some (.int a2)], [.int (nI 0)], r8.2, E)) rfl ?_
                      cases h
                      exact ev_ret hq rfl rfl ⟨rfl, rfl, rfl⟩
                  · cases h
        · refine gv_if h (fun c2 h => ?_) (fun c2 h => ?_)
          · refine ev_ins hq rfl (S' := (24, [some (.ref 0), some (.int a1), some (.int a2)], [.ref 112], D, E)) (gv_sw (fun z => ((23, [some (.ref 0), some (.int a1), some (.int a2)], .int z :: [.ref 62], D, E) : mx_S)) c2 rfl) ?_
            refine gv_n hq 1 (S' := (27, [some (.ref 0), some (.int a1), some (.int a2)], [.int (D 112 1)], D, E)) rfl ?_
            refine gv_b hq rfl h 30 33 rfl rfl rfl (fun h => ?_) (fun h => ?_)
            · refine gv_n hq 1 (S' := (32, [some (.ref 0), some (.int a1), some (.int a2)], [.int (-6 : Int32)], D, E)) rfl ?_
              cases h
              exact ev_ret hq rfl rfl ⟨rfl, rfl, rfl⟩
            · refine gv_n hq 5 (S' := (42, [some (.ref 0), some (.int a1), some (.int a2)], [.int a1, .ref 62, .ref 57], D, E)) rfl ?_
              refine gv_if h (fun c0 h => ?_) (fun c0 h => ?_)
              · refine ev_ins hq rfl (S' := (43, [some (.ref 0), some (.int a1), some (.int a2)], [.ref 108, .ref 57], D, E)) (gv_sw (fun z => ((42, [some (.ref 0), some (.int a1), some (.int a2)], .int z :: [.ref 62, .ref 57], D, E) : mx_S)) c0 rfl) ?_
                refine gv_n hq 3 (S' := (48, [some (.ref 0), some (.int a1), some (.int a2)], [.int a2, .ref 19, .ref 108, .ref 57], D, E)) rfl ?_
                obtain ⟨r9, h1, h⟩ := Option.bind_eq_some_iff.mp h
                refine gv_d hq rfl rfl rfl rfl rfl (gv_dd (by omega) (t_Sightings_take_108 X F (d - 1) (by omega) E _ _ _ h1)) (S' := (51, [some (.ref 0), some (.int a1), some (.int a2)], [.int r9.1], r9.2, E)) rfl ?_
                refine gv_b hq rfl h 58 54 rfl rfl rfl (fun h => ?_) (fun h => ?_)
                · refine gv_n hq 1 (S' := (60, [some (.ref 0), some (.int a1), some (.int a2)], [.int (-2 : Int32)], r9.2, E)) rfl ?_
                  cases h
                  exact ev_ret hq rfl rfl ⟨rfl, rfl, rfl⟩
                · refine gv_n hq 2 (S' := (60, [some (.ref 0), some (.int a1), some (.int a2)], [.int (nI 0)], r9.2, E)) rfl ?_
                  cases h
                  exact ev_ret hq rfl rfl ⟨rfl, rfl, rfl⟩
              · refine gv_if h (fun c1 h => ?_) (fun c1 h => ?_)
                · refine ev_ins hq rfl (S' := (43, [some (.ref 0), some (.int a1), some (.int a2)], [.ref 110, .ref 57], D, E)) (gv_sw (fun z => ((42, [some (.ref 0), some (.int a1), some (.int a2)], .int z :: [.ref 62, .ref 57], D, E) : mx_S)) c1 rfl) ?_
                  refine gv_n hq 3 (S' := (48, [some (.ref 0), some (.int a1), some (.int a2)], [.int a2, .ref 19, .ref 110, .ref 57], D, E)) rfl ?_
                  obtain ⟨r10, h1, h⟩ := Option.bind_eq_some_iff.mp h
                  refine gv_d hq rfl rfl rfl rfl rfl (gv_dd (by omega) (t_Sightings_take_110 X F (d - 1) (by omega) E _ _ _ h1)) (S' := (51, [some (.ref 0), some (.int a1), some (.int a2)], [.int r10.1], r10.2, E)) rfl ?_
                  refine gv_b hq rfl h 58 54 rfl rfl rfl (fun h => ?_) (fun h => ?_)
                  · refine gv_n hq 1 (S' := (60, [some (.ref 0), some (.int a1), some (.int a2)], [.int (-2 : Int32)], r10.2, E)) rfl ?_
                    cases h
                    exact ev_ret hq rfl rfl ⟨rfl, rfl, rfl⟩
                  · refine gv_n hq 2 (S' := (60, [some (.ref 0), some (.int a1), some (.int a2)], [.int (nI 0)], r10.2, E)) rfl ?_
                    cases h
                    exact ev_ret hq rfl rfl ⟨rfl, rfl, rfl⟩
                · refine gv_if h (fun c2 h => ?_) (fun c2 h => ?_)
                  · refine ev_ins hq rfl (S' := (43, [some (.ref 0), some (.int a1), some (.int a2)], [.ref 112, .ref 57], D, E)) (gv_sw (fun z => ((42, [some (.ref 0), some (.int a1), some (.int a2)], .int z :: [.ref 62, .ref 57], D, E) : mx_S)) c2 rfl) ?_
                    refine gv_n hq 3 (S' := (48, [some (.ref 0), some (.int a1), some (.int a2)], [.int a2, .ref 19, .ref 112, .ref 57], D, E)) rfl ?_
                    obtain ⟨r11, h1, h⟩ := Option.bind_eq_some_iff.mp h
                    refine gv_d hq rfl rfl rfl rfl rfl (gv_dd (by omega) (t_Sightings_take_112 X F (d - 1) (by omega) E _ _ _ h1)) (S' := (51, [some (.ref 0), some (.int a1), some (.int a2)], [.int r11.1], r11.2, E)) rfl ?_
                    refine gv_b hq rfl h 58 54 rfl rfl rfl (fun h => ?_) (fun h => ?_)
                    · refine gv_n hq 1 (S' := (60, [some (.ref 0), some (.int a1), some (.int a2)], [.int (-2 : Int32)], r11.2, E)) rfl ?_
                      cases h
                      exact ev_ret hq rfl rfl ⟨rfl, rfl, rfl⟩
                    · refine gv_n hq 2 (S' := (60, [some (.ref 0), some (.int a1), some (.int a2)], [.int (nI 0)], r11.2, E)) rfl ?_
                      cases h
                      exact ev_ret hq rfl rfl ⟨rfl, rfl, rfl⟩
                  · refine gv_if h (fun c3 h => ?_) (fun c3 h => ?_)
                    · refine ev_ins hq rfl (S' := (43, [some (.ref 0), some (.int a1), some (.int a2)], [.ref 114, .ref 57], D, E)) (gv_sw (fun z => ((42, [some (.ref 0), some (.int a1), some (.int a2)], .int z :: [.ref 62, .ref 57], D, E) : mx_S)) c3 rfl) ?_
                      refine gv_n hq 3 (S' := (48, [some (.ref 0), some (.int a1), some (.int a2)], [.int a2, .ref 19, .ref 114, .ref 57], D, E)) rfl ?_
                      obtain ⟨r12, h1, h⟩ := Option.bind_eq_some_iff.mp h
                      refine gv_d hq rfl rfl rfl rfl rfl (gv_dd (by omega) (t_Sightings_take_114 X F (d - 1) (by omega) E _ _ _ h1)) (S' := (51, [some (.ref 0), some (.int a1), some (.int a2)], [.int r12.1], r12.2, E)) rfl ?_
                      refine gv_b hq rfl h 58 54 rfl rfl rfl (fun h => ?_) (fun h => ?_)
                      · refine gv_n hq 1 (S' := (60, [some (.ref 0), some (.int a1), some (.int a2)], [.int (-2 : Int32)], r12.2, E)) rfl ?_
                        cases h
                        exact ev_ret hq rfl rfl ⟨rfl, rfl, rfl⟩
                      · refine gv_n hq 2 (S' := (60, [some (.ref 0), some (.int a1), some (.int a2)], [.int (nI 0)], r12.2, E)) rfl ?_
                        cases h
                        exact ev_ret hq rfl rfl ⟨rfl, rfl, rfl⟩
                    · cases h
          · refine gv_if h (fun c3 h => ?_) (fun c3 h => ?_)
            · refine ev_ins hq rfl (S' := (24, [some (.ref 0), some (.int a1), some (.int a2)], [.ref 114], D, E)) (gv_sw (fun z => ((23, [some (.ref 0), some (.int a1), some (.int a2)], .int z :: [.ref 62], D, E) : mx_S)) c3 rfl) ?_
              refine gv_n hq 1 (S' := (27, [some (.ref 0), some (.int a1), some (.int a2)], [.int (D 114 1)], D, E)) rfl ?_
              refine gv_b hq rfl h 30 33 rfl rfl rfl (fun h => ?_) (fun h => ?_)
              · refine gv_n hq 1 (S' := (32, [some (.ref 0), some (.int a1), some (.int a2)], [.int (-6 : Int32)], D, E)) rfl ?_
                cases h
                exact ev_ret hq rfl rfl ⟨rfl, rfl, rfl⟩
              · refine gv_n hq 5 (S' := (42, [some (.ref 0), some (.int a1), some (.int a2)], [.int a1, .ref 62, .ref 57], D, E)) rfl ?_
                refine gv_if h (fun c0 h => ?_) (fun c0 h => ?_)
                · refine ev_ins hq rfl (S' := (43, [some (.ref 0), some (.int a1), some (.int a2)], [.ref 108, .ref 57], D, E)) (gv_sw (fun z => ((42, [some (.ref 0), some (.int a1), some (.int a2)], .int z :: [.ref 62, .ref 57], D, E) : mx_S)) c0 rfl) ?_
                  refine gv_n hq 3 (S' := (48, [some (.ref 0), some (.int a1), some (.int a2)], [.int a2, .ref 19, .ref 108, .ref 57], D, E)) rfl ?_
                  obtain ⟨r13, h1, h⟩ := Option.bind_eq_some_iff.mp h
                  refine gv_d hq rfl rfl rfl rfl rfl (gv_dd (by omega) (t_Sightings_take_108 X F (d - 1) (by omega) E _ _ _ h1)) (S' := (51, [some (.ref 0), some (.int a1), some (.int a2)], [.int r13.1], r13.2, E)) rfl ?_
                  refine gv_b hq rfl h 58 54 rfl rfl rfl (fun h => ?_) (fun h => ?_)
                  · refine gv_n hq 1 (S' := (60, [some (.ref 0), some (.int a1), some (.int a2)], [.int (-2 : Int32)], r13.2, E)) rfl ?_
                    cases h
                    exact ev_ret hq rfl rfl ⟨rfl, rfl, rfl⟩
                  · refine gv_n hq 2 (S' := (60, [some (.ref 0), some (.int a1), some (.int a2)], [.int (nI 0)], r13.2, E)) rfl ?_
                    cases h
                    exact ev_ret hq rfl rfl ⟨rfl, rfl, rfl⟩
                · refine gv_if h (fun c1 h => ?_) (fun c1 h => ?_)
                  · refine ev_ins hq rfl (S' := (43, [some (.ref 0), some (.int a1), some (.int a2)], [.ref 110, .ref 57], D, E)) (gv_sw (fun z => ((42, [some (.ref 0), some (.int a1), some (.int a2)], .int z :: [.ref 62, .ref 57], D, E) : mx_S)) c1 rfl) ?_
                    refine gv_n hq 3 (S' := (48, [some (.ref 0), some (.int a1), some (.int a2)], [.int a2, .ref 19, .ref 110, .ref 57], D, E)) rfl ?_
                    obtain ⟨r14, h1, h⟩ := Option.bind_eq_some_iff.mp h
                    refine gv_d hq rfl rfl rfl rfl rfl (gv_dd (by omega) (t_Sightings_take_110 X F (d - 1) (by omega) E _ _ _ h1)) (S' := (51, [some (.ref 0), some (.int a1), some (.int a2)], [.int r14.1], r14.2, E)) rfl ?_
                    refine gv_b hq rfl h 58 54 rfl rfl rfl (fun h => ?_) (fun h => ?_)
                    · refine gv_n hq 1 (S' := (60, [some (.ref 0), some (.int a1), some (.int a2)], [.int (-2 : Int32)], r14.2, E)) rfl ?_
                      cases h
                      exact ev_ret hq rfl rfl ⟨rfl, rfl, rfl⟩
                    · refine gv_n hq 2 (S' := (60, [some (.ref 0), some (.int a1), some (.int a2)], [.int (nI 0)], r14.2, E)) rfl ?_
                      cases h
                      exact ev_ret hq rfl rfl ⟨rfl, rfl, rfl⟩
                  · refine gv_if h (fun c2 h => ?_) (fun c2 h => ?_)
                    · refine ev_ins hq rfl (S' := (43, [some (.ref 0), some (.int a1), some (.int a2)], [.ref 112, .ref 57], D, E)) (gv_sw (fun z => ((42, [some (.ref 0), some (.int a1), some (.int a2)], .int z :: [.ref 62, .ref 57], D, E) : mx_S)) c2 rfl) ?_
                      refine gv_n hq 3 (S' := (48, [some (.ref 0), some (.int a1), some (.int a2)], [.int a2, .ref 19, .ref 112, .ref 57], D, E)) rfl ?_
                      obtain ⟨r15, h1, h⟩ := Option.bind_eq_some_iff.mp h
                      refine gv_d hq rfl rfl rfl rfl rfl (gv_dd (by omega) (t_Sightings_take_112 X F (d - 1) (by omega) E _ _ _ h1)) (S' := (51, [some (.ref 0), some (.int a1), some (.int a2)], [.int r15.1], r15.2, E)) rfl ?_
                      refine gv_b hq rfl h 58 54 rfl rfl rfl (fun h => ?_) (fun h => ?_)
                      · refine gv_n hq 1 (S' := (60, [some (.ref 0), some (.int a1), some (.int a2)], [.int (-2 : Int32)], r15.2, E)) rfl ?_
                        cases h
                        exact ev_ret hq rfl rfl ⟨rfl, rfl, rfl⟩
                      · refine gv_n hq 2 (S' := (60, [some (.ref 0), some (.int a1), some (.int a2)], [.int (nI 0)], r15.2, E)) rfl ?_
                        cases h
                        exact ev_ret hq rfl rfl ⟨rfl, rfl, rfl⟩
                    · refine gv_if h (fun c3 h => ?_) (fun c3 h => ?_)
                      · refine ev_ins hq rfl (S' := (43, [some (.ref 0), some (.int a1), some (.int a2)], [.ref 114, .ref 57], D, E)) (gv_sw (fun z => ((42, [some (.ref 0), some (.int a1), some (.int a2)], .int z :: [.ref 62, .ref 57], D, E) : mx_S)) c3 rfl) ?_
                        refine gv_n hq 3 (S' := (48, [some (.ref 0), some (.int a1), some (.int a2)], [.int a2, .ref 19, .ref 114, .ref 57], D, E)) rfl ?_
                        obtain ⟨r16, h1, h⟩ := Option.bind_eq_some_iff.mp h
                        refine gv_d hq rfl rfl rfl rfl rfl (gv_dd (by omega) (t_Sightings_take_114 X F (d - 1) (by omega) E _ _ _ h1)) (S' := (51, [some (.ref 0), some (.int a1), some (.int a2)], [.int r16.1], r16.2, E)) rfl ?_
                        refine gv_b hq rfl h 58 54 rfl rfl rfl (fun h => ?_) (fun h => ?_)
                        · refine gv_n hq 1 (S' := (60, [some (.ref 0), some (.int a1), some (.int a2)], [.int (-2 : Int32)], r16.2, E)) rfl ?_
                          cases h
                          exact ev_ret hq rfl rfl ⟨rfl, rfl, rfl⟩
                        · refine gv_n hq 2 (S' := (60, [some (.ref 0), some (.int a1), some (.int a2)], [.int (nI 0)], r16.2, E)) rfl ?_
                          cases h
                          exact ev_ret hq rfl rfl ⟨rfl, rfl, rfl⟩
                      · cases h
            · cases h
def b_Arrays_fill_59_5 (F : Nat) (k5 : Int32 → Int32 → Int32 → mx_D → Option (mx_D)) (l1 : Int32) (l2 : Int32) (l3 : Int32) (D : mx_D) : Option (mx_D) := (if l3 ≤ l2 then (some D) else (rk 256 l2 (k5 l1 (l2 + (nI 1)) l3 (sD D 59 (l2).toNatClampNeg l1))))
set_option maxRecDepth 100000 in
set_option maxHeartbeats 4000000 in
theorem tb_Arrays_fill_59_5 (X : ev_X) (F : Nat) (d : Nat) (E : mx_E) (k5 : Int32 → Int32 → Int32 → mx_D → Option (mx_D)) (K5 : ∀ (l1 : Int32) (l2 : Int32) (l3 : Int32) (D : mx_D) (v : mx_D), k5 l1 l2 l3 D = some v → ev X d 333 (5, [some (.ref 59), some (.int l1), some (.int l2), some (.int l3)], [], D, E) (qR none v E)) (l1 : Int32) (l2 : Int32) (l3 : Int32) (D : mx_D) (v : mx_D) (h : b_Arrays_fill_59_5 F k5 l1 l2 l3 D = some v) : ev X d 333 (5, [some (.ref 59), some (.int l1), some (.int l2), some (.int l3)], [], D, E) (qR none v E) := by
  have hq : kq_m 333 = some kq_q333 := rfl
  unfold b_Arrays_fill_59_5 at h
  refine gv_n hq 2 (S' := (7, [some (.ref 59), some (.int l1), some (.int l2), some (.int l3)], [.int l3, .int l2], D, E)) rfl ?_
  refine gv_b hq rfl h 20 10 rfl rfl rfl (fun h => ?_) (fun h => ?_)
  · cases h
    exact ev_ret hq rfl rfl ⟨rfl, rfl, rfl⟩
  · refine gv_n hq 3 (S' := (13, [some (.ref 59), some (.int l1), some (.int l2), some (.int l3)], [.int l1, .int l2, .ref 59], D, E)) rfl ?_
    refine gv_is hq rfl rfl h 14 rfl (fun h => ?_)
    refine gv_n hq 2 (S' := (5, [some (.ref 59), some (.int l1), some (.int (l2 + (nI 1))), some (.int l3)], [], (sD D 59 (l2).toNatClampNeg l1), E)) rfl ?_
    exact gv_w (K5 _ _ _ _ _ h) (And.intro rfl (And.intro rfl (And.intro rfl (And.intro rfl trivial))))
def g_Arrays_fill_59_5 (F : Nat) : Nat → Int32 → Int32 → Int32 → mx_D → Option (mx_D) := it (fun k5 => b_Arrays_fill_59_5 F k5) (fun _ _ _ _ => none)
set_option maxRecDepth 100000 in
set_option maxHeartbeats 4000000 in
theorem t_Arrays_fill_59_5 (X : ev_X) (F : Nat) (d : Nat) (E : mx_E)  : ∀ (n : Nat) (l1 : Int32) (l2 : Int32) (l3 : Int32) (D : mx_D) (v : mx_D), g_Arrays_fill_59_5 F n l1 l2 l3 D = some v → ev X d 333 (5, [some (.ref 59), some (.int l1), some (.int l2), some (.int l3)], [], D, E) (qR none v E) := by
  intro n
  induction n with
  | zero => intro l1 l2 l3 D v h; cases h
  | succ n ih => intro l1 l2 l3 D v h; exact tb_Arrays_fill_59_5 X F d E (g_Arrays_fill_59_5 F n) ih l1 l2 l3 D v h
def g_Arrays_fill_59 (F : Nat) (a1 : Int32) (D : mx_D) : Option (mx_D) := (g_Arrays_fill_59_5 F F a1 (nI 0) (nI 256) D)
set_option maxRecDepth 100000 in
set_option maxHeartbeats 4000000 in
theorem t_Arrays_fill_59 (X : ev_X) (F : Nat) (d : Nat) (E : mx_E) (a1 : Int32) (D : mx_D) (v : mx_D) (h : g_Arrays_fill_59 F a1 D = some v) : ev X d 333 (0, [some (.ref 59), some (.int a1), none, none], [], D, E) (qR none v E) := by
  have hq : kq_m 333 = some kq_q333 := rfl
  unfold g_Arrays_fill_59 at h
  refine gv_n hq 5 (S' := (5, [some (.ref 59), some (.int a1), some (.int (nI 0)), some (.int (nI 256))], [], D, E)) rfl ?_
  exact gv_w (t_Arrays_fill_59_5 X F d E F _ _ _ _ _ h) (And.intro rfl (And.intro rfl (And.intro rfl (And.intro rfl trivial))))
def b_Sightings_waysInto_5 (F : Nat) (D : mx_D) (k5 : Int32 → Int32 → Int32 → Int32 → Option (Int32)) (l1 : Int32) (l2 : Int32) (l3 : Int32) (l4 : Int32) : Option (Int32) := (if (D 57 1) ≤ l4 then (some l3) else (if ((l1 &&& l2) &&& ((nI 1) <<< (l4 &&& 31))) = 0 then (k5 l1 l2 l3 (l4 + (nI 1))) else (rk 256 (l1 &&& (((nI 1) <<< (l4 &&& 31)) ^^^ (-1 : Int32))) (k5 l1 l2 (l3 + (D 59 ((l1 &&& (((nI 1) <<< (l4 &&& 31)) ^^^ (-1 : Int32)))).toNatClampNeg)) (l4 + (nI 1))))))
set_option maxRecDepth 100000 in
set_option maxHeartbeats 4000000 in
theorem tb_Sightings_waysInto_5 (X : ev_X) (F : Nat) (d : Nat) (D : mx_D) (E : mx_E) (k5 : Int32 → Int32 → Int32 → Int32 → Option (Int32)) (K5 : ∀ (l1 : Int32) (l2 : Int32) (l3 : Int32) (l4 : Int32) (v : Int32), k5 l1 l2 l3 l4 = some v → ev X d 98 (5, [some (.ref 57), some (.int l1), some (.int l2), some (.int l3), some (.int l4)], [], D, E) (qR (some (.int v)) D E)) (l1 : Int32) (l2 : Int32) (l3 : Int32) (l4 : Int32) (v : Int32) (h : b_Sightings_waysInto_5 F D k5 l1 l2 l3 l4 = some v) : ev X d 98 (5, [some (.ref 57), some (.int l1), some (.int l2), some (.int l3), some (.int l4)], [], D, E) (qR (some (.int v)) D E) := by
  have hq : kq_m 98 = some kq_q98 := rfl
  unfold b_Sightings_waysInto_5 at h
  refine gv_n hq 3 (S' := (11, [some (.ref 57), some (.int l1), some (.int l2), some (.int l3), some (.int l4)], [.int (D 57 1), .int l4], D, E)) rfl ?_
  refine gv_b hq rfl h 47 14 rfl rfl rfl (fun h => ?_) (fun h => ?_)
  · refine gv_n hq 1 (S' := (48, [some (.ref 57), some (.int l1), some (.int l2), some (.int l3), some (.int l4)], [.int l3], D, E)) rfl ?_
    cases h
    exact ev_ret hq rfl rfl ⟨rfl, rfl, rfl⟩
  · refine gv_n hq 7 (S' := (22, [some (.ref 57), some (.int l1), some (.int l2), some (.int l3), some (.int l4)], [.int ((l1 &&& l2) &&& ((nI 1) <<< (l4 &&& 31)))], D, E)) rfl ?_
    refine gv_b hq rfl h 41 25 rfl rfl rfl (fun h => ?_) (fun h => ?_)
    · refine gv_n hq 2 (S' := (5, [some (.ref 57), some (.int l1), some (.int l2), some (.int l3), some (.int (l4 + (nI 1)))], [], D, E)) rfl ?_
      exact gv_w (K5 _ _ _ _ _ h) (And.intro rfl (And.intro rfl (And.intro rfl (And.intro rfl (And.intro rfl trivial)))))
    · refine gv_n hq 10 (S' := (38, [some (.ref 57), some (.int l1), some (.int l2), some (.int l3), some (.int l4)], [.int (l1 &&& (((nI 1) <<< (l4 &&& 31)) ^^^ (-1 : Int32))), .ref 59, .int l3], D, E)) rfl ?_
      refine gv_ia hq rfl rfl rfl h 39 rfl (fun h => ?_)
      refine gv_n hq 4 (S' := (5, [some (.ref 57), some (.int l1), some (.int l2), some (.int (l3 + (D 59 ((l1 &&& (((nI 1) <<< (l4 &&& 31)) ^^^ (-1 : Int32)))).toNatClampNeg))), some (.int (l4 + (nI 1)))], [], D, E)) rfl ?_
      exact gv_w (K5 _ _ _ _ _ h) (And.intro rfl (And.intro rfl (And.intro rfl (And.intro rfl (And.intro rfl trivial)))))
def g_Sightings_waysInto_5 (F : Nat) (D : mx_D) : Nat → Int32 → Int32 → Int32 → Int32 → Option (Int32) := it (fun k5 => b_Sightings_waysInto_5 F D k5) (fun _ _ _ _ => none)
set_option maxRecDepth 100000 in
set_option maxHeartbeats 4000000 in
theorem t_Sightings_waysInto_5 (X : ev_X) (F : Nat) (d : Nat) (D : mx_D) (E : mx_E)  : ∀ (n : Nat) (l1 : Int32) (l2 : Int32) (l3 : Int32) (l4 : Int32) (v : Int32), g_Sightings_waysInto_5 F D n l1 l2 l3 l4 = some v → ev X d 98 (5, [some (.ref 57), some (.int l1), some (.int l2), some (.int l3), some (.int l4)], [], D, E) (qR (some (.int v)) D E) := by
  intro n
  induction n with
  | zero => intro l1 l2 l3 l4 v h; cases h
  | succ n ih => intro l1 l2 l3 l4 v h; exact tb_Sightings_waysInto_5 X F d D E (g_Sightings_waysInto_5 F D n) ih l1 l2 l3 l4 v h
def g_Sightings_waysInto (F : Nat) (D : mx_D) (a1 : Int32) (a2 : Int32) : Option (Int32) := (g_Sightings_waysInto_5 F D F a1 a2 (nI 0) (nI 0))
set_option maxRecDepth 100000 in
set_option maxHeartbeats 4000000 in
theorem t_Sightings_waysInto (X : ev_X) (F : Nat) (d : Nat) (D : mx_D) (E : mx_E) (a1 : Int32) (a2 : Int32) (v : Int32) (h : g_Sightings_waysInto F D a1 a2 = some v) : ev X d 98 (0, [some (.ref 57), some (.int a1), some (.int a2), none, none], [], D, E) (qR (some (.int v)) D E) := by
  have hq : kq_m 98 = some kq_q98 := rfl
  unfold g_Sightings_waysInto at h
  refine gv_n hq 4 (S' := (5, [some (.ref 57), some (.int a1), some (.int a2), some (.int (nI 0)), some (.int (nI 0))], [], D, E)) rfl ?_
  exact gv_w (t_Sightings_waysInto_5 X F d D E F _ _ _ _ _ h) (And.intro rfl (And.intro rfl (And.intro rfl (And.intro rfl (And.intro rfl trivial)))))
