/-! ===== pictures of the methods and the rows that tie them to their frames, printed by a program of mine ===== -/
def g_M_isHump (F : Nat) (D : mx_D) (a1 : Int32) (a2 : Int32) : Option (Int32) := (if a2 = 0 then (some (nI 0)) else (if (a2 + (nI 1)) < (D 117 1) then (Option.bind (g_M_sitterAt F D a1 a2) (fun r1 => (Option.bind (g_M_sitterAt F D a1 (a2 - (nI 1))) (fun r2 => (Option.bind (g_M_sitterAt F D a1 (a2 + (nI 1))) (fun r3 => (if r1 = (-1 : Int32) then (some (nI 0)) else (if r2 = (-1 : Int32) then (some (nI 0)) else (if r3 = (-1 : Int32) then (some (nI 0)) else (rk 8 r1 (rk 8 r2 (if ((D 123 (r1).toNatClampNeg) - (D 123 (r2).toNatClampNeg)) ≤ (D 117 2) then (some (nI 0)) else (rk 8 r1 (rk 8 r3 (if ((D 123 (r1).toNatClampNeg) - (D 123 (r3).toNatClampNeg)) ≤ (D 117 2) then (some (nI 0)) else (some (nI 1))))))))))))))))) else (some (nI 0))))
set_option maxRecDepth 100000 in
set_option maxHeartbeats 4000000 in
theorem t_M_isHump (X : ev_X) (F : Nat) (d : Nat) (hd : 2 ≤ d + 1) (D : mx_D) (E : mx_E) (a1 : Int32) (a2 : Int32) (v : Int32) (h : g_M_isHump F D a1 a2 = some v) : ev X (d + 1) 297 (0, [some (.ref 116), some (.int a1), some (.int a2), none, none, none], [], D, E) (qR (some (.int v)) D E) := by
  have hq : kq_m 297 = some kq_q297 := rfl
  unfold g_M_isHump at h
  refine gv_n hq 1 (S' := (1, [some (.ref 116), some (.int a1), some (.int a2), none, none, none], [.int a2], D, E)) rfl ?_
  refine gv_b hq rfl h 16 4 rfl rfl rfl (fun h => ?_) (fun h => ?_)
  · refine gv_n hq 1 (S' := (17, [some (.ref 116), some (.int a1), some (.int a2), none, none, none], [.int (nI 0)], D, E)) rfl ?_
    cases h
    exact ev_ret hq rfl rfl ⟨rfl, rfl, rfl⟩
  · refine gv_n hq 7 (S' := (13, [some (.ref 116), some (.int a1), some (.int a2), none, none, none], [.int (D 117 1), .int (a2 + (nI 1))], D, E)) rfl ?_
    refine gv_b hq rfl h 18 16 rfl rfl rfl (fun h => ?_) (fun h => ?_)
    · refine gv_n hq 3 (S' := (21, [some (.ref 116), some (.int a1), some (.int a2), none, none, none], [.int a2, .int a1, .ref 116], D, E)) rfl ?_
      obtain ⟨r1, h1, h⟩ := Option.bind_eq_some_iff.mp h
      refine gv_d hq rfl rfl rfl rfl rfl (gv_dd (by omega) (t_M_sitterAt X F (d - 1) (by omega) D E _ _ _ h1)) (S' := (24, [some (.ref 116), some (.int a1), some (.int a2), none, none, none], [.int r1], D, E)) rfl ?_
      refine gv_n hq 6 (S' := (30, [some (.ref 116), some (.int a1), some (.int a2), some (.int r1), none, none], [.int (a2 - (nI 1)), .int a1, .ref 116], D, E)) rfl ?_
      obtain ⟨r2, h1, h⟩ := Option.bind_eq_some_iff.mp h
      refine gv_d hq rfl rfl rfl rfl rfl (gv_dd (by omega) (t_M_sitterAt X F (d - 1) (by omega) D E _ _ _ h1)) (S' := (33, [some (.ref 116), some (.int a1), some (.int a2), some (.int r1), none, none], [.int r2], D, E)) rfl ?_
      refine gv_n hq 6 (S' := (40, [some (.ref 116), some (.int a1), some (.int a2), some (.int r1), some (.int r2), none], [.int (a2 + (nI 1)), .int a1, .ref 116], D, E)) rfl ?_
      obtain ⟨r3, h1, h⟩ := Option.bind_eq_some_iff.mp h
      refine gv_d hq rfl rfl rfl rfl rfl (gv_dd (by omega) (t_M_sitterAt X F (d - 1) (by omega) D E _ _ _ h1)) (S' := (43, [some (.ref 116), some (.int a1), some (.int a2), some (.int r1), some (.int r2), none], [.int r3], D, E)) rfl ?_
      refine gv_n hq 3 (S' := (47, [some (.ref 116), some (.int a1), some (.int a2), some (.int r1), some (.int r2), some (.int r3)], [.int (-1 : Int32), .int r1], D, E)) rfl ?_
      refine gv_b hq rfl h 112 50 rfl rfl rfl (fun h => ?_) (fun h => ?_)
      · refine gv_n hq 1 (S' := (113, [some (.ref 116), some (.int a1), some (.int a2), some (.int r1), some (.int r2), some (.int r3)], [.int (nI 0)], D, E)) rfl ?_
        cases h
        exact ev_ret hq rfl rfl ⟨rfl, rfl, rfl⟩
      · refine gv_n hq 2 (S' := (53, [some (.ref 116), some (.int a1), some (.int a2), some (.int r1), some (.int r2), some (.int r3)], [.int (-1 : Int32), .int r2], D, E)) rfl ?_
        refine gv_b hq rfl h 112 56 rfl rfl rfl (fun h => ?_) (fun h => ?_)
        · refine gv_n hq 1 (S' := (113, [some (.ref 116), some (.int a1), some (.int a2), some (.int r1), some (.int r2), some (.int r3)], [.int (nI 0)], D, E)) rfl ?_
          cases h
          exact ev_ret hq rfl rfl ⟨rfl, rfl, rfl⟩
        · refine gv_n hq 2 (S' := (59, [some (.ref 116), some (.int a1), some (.int a2), some (.int r1), some (.int r2), some (.int r3)], [.int (-1 : Int32), .int r3], D, E)) rfl ?_
          refine gv_b hq rfl h 112 62 rfl rfl rfl (fun h => ?_) (fun h => ?_)
          · refine gv_n hq 1 (S' := (113, [some (.ref 116), some (.int a1), some (.int a2), some (.int r1), some (.int r2), some (.int r3)], [.int (nI 0)], D, E)) rfl ?_
            cases h
            exact ev_ret hq rfl rfl ⟨rfl, rfl, rfl⟩
          · refine gv_n hq 3 (S' := (67, [some (.ref 116), some (.int a1), some (.int a2), some (.int r1), some (.int r2), some (.int r3)], [.int r1, .ref 123], D, E)) rfl ?_
            refine gv_ia hq rfl rfl rfl h 68 rfl (fun h => ?_)
            refine gv_n hq 3 (S' := (74, [some (.ref 116), some (.int a1), some (.int a2), some (.int r1), some (.int r2), some (.int r3)], [.int r2, .ref 123, .int (D 123 (r1).toNatClampNeg)], D, E)) rfl ?_
            refine gv_ia hq rfl rfl rfl h 75 rfl (fun h => ?_)
            refine gv_n hq 5 (S' := (82, [some (.ref 116), some (.int a1), some (.int a2), some (.int r1), some (.int r2), some (.int r3)], [.int (D 117 2), .int ((D 123 (r1).toNatClampNeg) - (D 123 (r2).toNatClampNeg))], D, E)) rfl ?_
            refine gv_b hq rfl h 112 85 rfl rfl rfl (fun h => ?_) (fun h => ?_)
            · refine gv_n hq 1 (S' := (113, [some (.ref 116), some (.int a1), some (.int a2), some (.int r1), some (.int r2), some (.int r3)], [.int (nI 0)], D, E)) rfl ?_
              cases h
              exact ev_ret hq rfl rfl ⟨rfl, rfl, rfl⟩
            · refine gv_n hq 3 (S' := (90, [some (.ref 116), some (.int a1), some (.int a2), some (.int r1), some (.int r2), some (.int r3)], [.int r1, .ref 123], D, E)) rfl ?_
              refine gv_ia hq rfl rfl rfl h 91 rfl (fun h => ?_)
              refine gv_n hq 3 (S' := (97, [some (.ref 116), some (.int a1), some (.int a2), some (.int r1), some (.int r2), some (.int r3)], [.int r3, .ref 123, .int (D 123 (r1).toNatClampNeg)], D, E)) rfl ?_
              refine gv_ia hq rfl rfl rfl h 98 rfl (fun h => ?_)
              refine gv_n hq 5 (S' := (105, [some (.ref 116), some (.int a1), some (.int a2), some (.int r1), some (.int r2), some (.int r3)], [.int (D 117 2), .int ((D 123 (r1).toNatClampNeg) - (D 123 (r3).toNatClampNeg))], D, E)) rfl ?_
              refine gv_b hq rfl h 112 108 rfl rfl rfl (fun h => ?_) (fun h => ?_)
              · refine gv_n hq 1 (S' := (113, [some (.ref 116), some (.int a1), some (.int a2), some (.int r1), some (.int r2), some (.int r3)], [.int (nI 0)], D, E)) rfl ?_
                cases h
                exact ev_ret hq rfl rfl ⟨rfl, rfl, rfl⟩
              · refine gv_n hq 2 (S' := (113, [some (.ref 116), some (.int a1), some (.int a2), some (.int r1), some (.int r2), some (.int r3)], [.int (nI 1)], D, E)) rfl ?_
                cases h
                exact ev_ret hq rfl rfl ⟨rfl, rfl, rfl⟩
    · refine gv_n hq 1 (S' := (17, [some (.ref 116), some (.int a1), some (.int a2), none, none, none], [.int (nI 0)], D, E)) rfl ?_
      cases h
      exact ev_ret hq rfl rfl ⟨rfl, rfl, rfl⟩
def b_M_hump_51 (F : Nat) (k51 : Int32 → Int32 → Int32 → Int32 → Int32 → mx_D → Option (Int32 × mx_D)) (l1 : Int32) (l3 : Int32) (l4 : Int32) (l5 : Int32) (l6 : Int32) (D : mx_D) : Option (Int32 × mx_D) := (if l6 < 0 then (if l3 = 0 then (some (l4, D)) else (some (l5, D))) else (Option.bind (g_M_isHump F D l1 l6) (fun r2 => (if r2 = 0 then (k51 l1 l3 l4 l5 (l6 + (-1 : Int32)) D) else (k51 l1 l3 (l4 + (nI 1)) l6 (l6 + (-1 : Int32)) D)))))
set_option maxRecDepth 100000 in
set_option maxHeartbeats 4000000 in
theorem tb_M_hump_51 (X : ev_X) (F : Nat) (d : Nat) (hd : 5 ≤ d + 1) (E : mx_E) (k51 : Int32 → Int32 → Int32 → Int32 → Int32 → mx_D → Option (Int32 × mx_D)) (K51 : ∀ (l1 : Int32) (l3 : Int32) (l4 : Int32) (l5 : Int32) (l6 : Int32) (D : mx_D) (v : Int32 × mx_D), k51 l1 l3 l4 l5 l6 D = some v → ev X (d + 1) 296 (51, [some (.ref 116), some (.int l1), none, some (.int l3), some (.int l4), some (.int l5), some (.int l6)], [], D, E) (qR (some (.int v.1)) v.2 E)) (l1 : Int32) (l3 : Int32) (l4 : Int32) (l5 : Int32) (l6 : Int32) (D : mx_D) (v : Int32 × mx_D) (h : b_M_hump_51 F k51 l1 l3 l4 l5 l6 D = some v) : ev X (d + 1) 296 (51, [some (.ref 116), some (.int l1), none, some (.int l3), some (.int l4), some (.int l5), some (.int l6)], [], D, E) (qR (some (.int v.1)) v.2 E) := by
  have hq : kq_m 296 = some kq_q296 := rfl
  unfold b_M_hump_51 at h
  refine gv_n hq 1 (S' := (53, [some (.ref 116), some (.int l1), none, some (.int l3), some (.int l4), some (.int l5), some (.int l6)], [.int l6], D, E)) rfl ?_
  refine gv_b hq rfl h 82 56 rfl rfl rfl (fun h => ?_) (fun h => ?_)
  · refine gv_n hq 1 (S' := (83, [some (.ref 116), some (.int l1), none, some (.int l3), some (.int l4), some (.int l5), some (.int l6)], [.int l3], D, E)) rfl ?_
    refine gv_b hq rfl h 86 91 rfl rfl rfl (fun h => ?_) (fun h => ?_)
    · refine gv_n hq 2 (S' := (93, [some (.ref 116), some (.int l1), none, some (.int l3), some (.int l4), some (.int l5), some (.int l6)], [.int l4], D, E)) rfl ?_
      cases h
      exact ev_ret hq rfl rfl ⟨rfl, rfl, rfl⟩
    · refine gv_n hq 1 (S' := (93, [some (.ref 116), some (.int l1), none, some (.int l3), some (.int l4), some (.int l5), some (.int l6)], [.int l5], D, E)) rfl ?_
      cases h
      exact ev_ret hq rfl rfl ⟨rfl, rfl, rfl⟩
  · refine gv_n hq 3 (S' := (60, [some (.ref 116), some (.int l1), none, some (.int l3), some (.int l4), some (.int l5), some (.int l6)], [.int l6, .int l1, .ref 116], D, E)) rfl ?_
    obtain ⟨r2, h1, h⟩ := Option.bind_eq_some_iff.mp h
    refine gv_d hq rfl rfl rfl rfl rfl (gv_dd (by omega) (t_M_isHump X F (d - 1) (by omega) D E _ _ _ h1)) (S' := (63, [some (.ref 116), some (.int l1), none, some (.int l3), some (.int l4), some (.int l5), some (.int l6)], [.int r2], D, E)) rfl ?_
    refine gv_b hq rfl h 66 69 rfl rfl rfl (fun h => ?_) (fun h => ?_)
    · refine gv_n hq 3 (S' := (51, [some (.ref 116), some (.int l1), none, some (.int l3), some (.int l4), some (.int l5), some (.int (l6 + (-1 : Int32)))], [], D, E)) rfl ?_
      exact gv_w (K51 _ _ _ _ _ _ _ h) (And.intro rfl (And.intro rfl (And.intro rfl (And.intro rfl (And.intro rfl (And.intro rfl trivial))))))
    · refine gv_n hq 5 (S' := (51, [some (.ref 116), some (.int l1), none, some (.int l3), some (.int (l4 + (nI 1))), some (.int l6), some (.int (l6 + (-1 : Int32)))], [], D, E)) rfl ?_
      exact gv_w (K51 _ _ _ _ _ _ _ h) (And.intro rfl (And.intro rfl (And.intro rfl (And.intro rfl (And.intro rfl (And.intro rfl trivial))))))
def g_M_hump_51 (F : Nat) : Nat → Int32 → Int32 → Int32 → Int32 → Int32 → mx_D → Option (Int32 × mx_D) := it (fun k51 => b_M_hump_51 F k51) (fun _ _ _ _ _ _ => none)
set_option maxRecDepth 100000 in
set_option maxHeartbeats 4000000 in
theorem t_M_hump_51 (X : ev_X) (F : Nat) (d : Nat) (hd : 5 ≤ d + 1) (E : mx_E)  : ∀ (n : Nat) (l1 : Int32) (l3 : Int32) (l4 : Int32) (l5 : Int32) (l6 : Int32) (D : mx_D) (v : Int32 × mx_D), g_M_hump_51 F n l1 l3 l4 l5 l6 D = some v → ev X (d + 1) 296 (51, [some (.ref 116), some (.int l1), none, some (.int l3), some (.int l4), some (.int l5), some (.int l6)], [], D, E) (qR (some (.int v.1)) v.2 E) := by
  intro n
  induction n with
  | zero => intro l1 l3 l4 l5 l6 D v h; cases h
  | succ n ih => intro l1 l3 l4 l5 l6 D v h; exact tb_M_hump_51 X F d hd E (g_M_hump_51 F n) ih l1 l3 l4 l5 l6 D v h
def g_M_hump (F : Nat) (a1 : Int32) (a2 : Int32) (a3 : Int32) (D : mx_D) : Option (Int32 × mx_D) := (if (g_M_isPew D ((a1).toInt64)) = 0 then (some ((-2 : Int32), D)) else (if (g_M_isYear D a2) = 0 then (some ((-2 : Int32), D)) else (if (g_M_in ((a3).toInt64) (lN 0) (lN 1)) = 0 then (some ((-2 : Int32), D)) else (Option.bind (g_M_lay F a2 D) (fun r1 => (g_M_hump_51 F F a1 a3 (nI 0) (-1 : Int32) ((r1 117 1) - (nI 1)) r1))))))
set_option maxRecDepth 100000 in
set_option maxHeartbeats 4000000 in
theorem t_M_hump (X : ev_X) (F : Nat) (d : Nat) (hd : 5 ≤ d + 1) (E : mx_E) (a1 : Int32) (a2 : Int32) (a3 : Int32) (D : mx_D) (v : Int32 × mx_D) (h : g_M_hump F a1 a2 a3 D = some v) : ev X (d + 1) 296 (0, [some (.ref 116), some (.int a1), some (.int a2), some (.int a3), none, none, none], [], D, E) (qR (some (.int v.1)) v.2 E) := by
  have hq : kq_m 296 = some kq_q296 := rfl
  unfold g_M_hump at h
  refine gv_n hq 3 (S' := (3, [some (.ref 116), some (.int a1), some (.int a2), some (.int a3), none, none, none], [.long ((a1).toInt64), .ref 116], D, E)) rfl ?_
  refine gv_d hq rfl rfl rfl rfl rfl (gv_dd (by omega) (t_M_isPew X (d - 1) (by omega) D E _ _ rfl)) (S' := (6, [some (.ref 116), some (.int a1), some (.int a2), some (.int a3), none, none, none], [.int (g_M_isPew D ((a1).toInt64))], D, E)) rfl ?_
  refine gv_b hq rfl h 27 9 rfl rfl rfl (fun h => ?_) (fun h => ?_)
  · refine gv_n hq 1 (S' := (29, [some (.ref 116), some (.int a1), some (.int a2), some (.int a3), none, none, none], [.int (-2 : Int32)], D, E)) rfl ?_
    cases h
    exact ev_ret hq rfl rfl ⟨rfl, rfl, rfl⟩
  · refine gv_n hq 2 (S' := (11, [some (.ref 116), some (.int a1), some (.int a2), some (.int a3), none, none, none], [.int a2, .ref 116], D, E)) rfl ?_
    refine gv_d hq rfl rfl rfl rfl rfl (gv_dd (by omega) (t_M_isYear X (d - 1) (by omega) D E _ _ rfl)) (S' := (14, [some (.ref 116), some (.int a1), some (.int a2), some (.int a3), none, none, none], [.int (g_M_isYear D a2)], D, E)) rfl ?_
    refine gv_b hq rfl h 27 17 rfl rfl rfl (fun h => ?_) (fun h => ?_)
    · refine gv_n hq 1 (S' := (29, [some (.ref 116), some (.int a1), some (.int a2), some (.int a3), none, none, none], [.int (-2 : Int32)], D, E)) rfl ?_
      cases h
      exact ev_ret hq rfl rfl ⟨rfl, rfl, rfl⟩
    · refine gv_n hq 4 (S' := (21, [some (.ref 116), some (.int a1), some (.int a2), some (.int a3), none, none, none], [.long (lN 1), .long (lN 0), .long ((a3).toInt64)], D, E)) rfl ?_
      refine gv_d hq rfl rfl rfl rfl rfl ((t_M_in X d D E _ _ _ _ rfl)) (S' := (24, [some (.ref 116), some (.int a1), some (.int a2), some (.int a3), none, none, none], [.int (g_M_in ((a3).toInt64) (lN 0) (lN 1))], D, E)) rfl ?_
      refine gv_b hq rfl h 27 30 rfl rfl rfl (fun h => ?_) (fun h => ?_)
      · refine gv_n hq 1 (S' := (29, [some (.ref 116), some (.int a1), some (.int a2), some (.int a3), none, none, none], [.int (-2 : Int32)], D, E)) rfl ?_
        cases h
        exact ev_ret hq rfl rfl ⟨rfl, rfl, rfl⟩
      · refine gv_n hq 2 (S' := (32, [some (.ref 116), some (.int a1), some (.int a2), some (.int a3), none, none, none], [.int a2, .ref 116], D, E)) rfl ?_
        obtain ⟨r1, h1, h⟩ := Option.bind_eq_some_iff.mp h
        refine gv_d hq rfl rfl rfl rfl rfl (gv_dd (by omega) (t_M_lay X F (d - 1) (by omega) E _ _ _ h1)) (S' := (35, [some (.ref 116), some (.int a1), some (.int a2), some (.int a3), none, none, none], [], r1, E)) rfl ?_
        refine gv_n hq 11 (S' := (51, [some (.ref 116), some (.int a1), some (.int a2), some (.int a3), some (.int (nI 0)), some (.int (-1 : Int32)), some (.int ((r1 117 1) - (nI 1)))], [], r1, E)) rfl ?_
        exact gv_w (t_M_hump_51 X F d hd E F _ _ _ _ _ _ _ h) (And.intro rfl (And.intro rfl (And.intro rfl (And.intro rfl (And.intro rfl (And.intro rfl trivial))))))
def b_Heights_drop_8 (F : Nat) (k8 : Int32 → Int32 → mx_D → Option (mx_D)) (l2 : Int32) (l3 : Int32) (D : mx_D) : Option (mx_D) := (if (nI 4) ≤ l3 then (some (sD D 34 2 ((D 34 2) &&& l2))) else (rk 4 l3 (rk 4 l3 (k8 l2 (l3 + (nI 1)) (sD D 36 (l3).toNatClampNeg ((D 36 (l3).toNatClampNeg) &&& l2))))))
set_option maxRecDepth 100000 in
set_option maxHeartbeats 4000000 in
theorem tb_Heights_drop_8 (X : ev_X) (F : Nat) (d : Nat) (E : mx_E) (k8 : Int32 → Int32 → mx_D → Option (mx_D)) (K8 : ∀ (l2 : Int32) (l3 : Int32) (D : mx_D) (v : mx_D), k8 l2 l3 D = some v → ev X d 52 (8, [some (.ref 34), none, some (.int l2), some (.int l3)], [], D, E) (qR none v E)) (l2 : Int32) (l3 : Int32) (D : mx_D) (v : mx_D) (h : b_Heights_drop_8 F k8 l2 l3 D = some v) : ev X d 52 (8, [some (.ref 34), none, some (.int l2), some (.int l3)], [], D, E) (qR none v E) := by
  have hq : kq_m 52 = some kq_q52 := rfl
  unfold b_Heights_drop_8 at h
  refine gv_n hq 2 (S' := (10, [some (.ref 34), none, some (.int l2), some (.int l3)], [.int (nI 4), .int l3], D, E)) rfl ?_
  refine gv_b hq rfl h 29 13 rfl rfl rfl (fun h => ?_) (fun h => ?_)
  · refine gv_n hq 6 (S' := (39, [some (.ref 34), none, some (.int l2), some (.int l3)], [], (sD D 34 2 ((D 34 2) &&& l2)), E)) rfl ?_
    cases h
    exact ev_ret hq rfl rfl ⟨rfl, rfl, rfl⟩
  · refine gv_n hq 4 (S' := (19, [some (.ref 34), none, some (.int l2), some (.int l3)], [.int l3, .ref 36, .int l3, .ref 36], D, E)) rfl ?_
    refine gv_ia hq rfl rfl rfl h 20 rfl (fun h => ?_)
    refine gv_n hq 2 (S' := (22, [some (.ref 34), none, some (.int l2), some (.int l3)], [.int ((D 36 (l3).toNatClampNeg) &&& l2), .int l3, .ref 36], D, E)) rfl ?_
    refine gv_is hq rfl rfl h 23 rfl (fun h => ?_)
    refine gv_n hq 2 (S' := (8, [some (.ref 34), none, some (.int l2), some (.int (l3 + (nI 1)))], [], (sD D 36 (l3).toNatClampNeg ((D 36 (l3).toNatClampNeg) &&& l2)), E)) rfl ?_
    exact gv_w (K8 _ _ _ _ h) (And.intro rfl (And.intro rfl (And.intro rfl trivial)))
def g_Heights_drop_8 (F : Nat) : Nat → Int32 → Int32 → mx_D → Option (mx_D) := it (fun k8 => b_Heights_drop_8 F k8) (fun _ _ _ => none)
set_option maxRecDepth 100000 in
set_option maxHeartbeats 4000000 in
theorem t_Heights_drop_8 (X : ev_X) (F : Nat) (d : Nat) (E : mx_E)  : ∀ (n : Nat) (l2 : Int32) (l3 : Int32) (D : mx_D) (v : mx_D), g_Heights_drop_8 F n l2 l3 D = some v → ev X d 52 (8, [some (.ref 34), none, some (.int l2), some (.int l3)], [], D, E) (qR none v E) := by
  intro n
  induction n with
  | zero => intro l2 l3 D v h; cases h
  | succ n ih => intro l2 l3 D v h; exact tb_Heights_drop_8 X F d E (g_Heights_drop_8 F n) ih l2 l3 D v h
def g_Heights_drop (F : Nat) (a1 : Int32) (D : mx_D) : Option (mx_D) := (g_Heights_drop_8 F F (((nI 1) <<< (a1 &&& 31)) ^^^ (-1 : Int32)) (nI 0) D)
set_option maxRecDepth 100000 in
set_option maxHeartbeats 4000000 in
theorem t_Heights_drop (X : ev_X) (F : Nat) (d : Nat) (E : mx_E) (a1 : Int32) (D : mx_D) (v : mx_D) (h : g_Heights_drop F a1 D = some v) : ev X d 52 (0, [some (.ref 34), some (.int a1), none, none], [], D, E) (qR none v E) := by
  have hq : kq_m 52 = some kq_q52 := rfl
  unfold g_Heights_drop at h
  refine gv_n hq 8 (S' := (8, [some (.ref 34), some (.int a1), some (.int (((nI 1) <<< (a1 &&& 31)) ^^^ (-1 : Int32))), some (.int (nI 0))], [], D, E)) rfl ?_
  exact gv_w (t_Heights_drop_8 X F d E F _ _ _ _ h) (And.intro rfl (And.intro rfl (And.intro rfl trivial)))
def b_X_seat_70 (F : Nat) (k55 : Int32 → Int32 → Int32 → mx_D → Option (Int32 × mx_D)) (k70 : Int32 → Int32 → Int32 → Int32 → mx_D → Option (Int32 × mx_D)) (l1 : Int32) (l3 : Int32) (l4 : Int32) (l5 : Int32) (D : mx_D) : Option (Int32 × mx_D) := (if (D 19 1) ≤ l5 then (k55 l1 l3 (l4 + (nI 1)) D) else (Option.bind (g_Church_sitterAt F D l4 l5) (fun r4 => (if r4 = (-1 : Int32) then (Option.bind (g_Church_floorAt D l4 l5) (fun r5 => (Option.bind (g_Heights_put l1 l4 (l3 + r5) D) (fun r6 => (Option.bind (g_X_allAreLevel F r6) (fun r7 => (if r7 = 0 then (Option.bind (g_Heights_drop F l1 r6) (fun r8 => (k70 l1 l3 l4 (l5 + (nI 1)) r8))) else (some ((((nI 100) * l4) + l5), r6))))))))) else (k70 l1 l3 l4 (l5 + (nI 1)) D)))))
set_option maxRecDepth 100000 in
set_option maxHeartbeats 4000000 in
theorem tb_X_seat_70 (X : ev_X) (F : Nat) (d : Nat) (hd : 5 ≤ d + 1) (E : mx_E) (k55 : Int32 → Int32 → Int32 → mx_D → Option (Int32 × mx_D)) (k70 : Int32 → Int32 → Int32 → Int32 → mx_D → Option (Int32 × mx_D)) (K55 : ∀ (l1 : Int32) (l3 : Int32) (l4 : Int32) (D : mx_D) (v : Int32 × mx_D), k55 l1 l3 l4 D = some v → ev X (d + 1) 157 (55, [some (.ref 0), some (.int l1), none, some (.int l3), some (.int l4), none], [], D, E) (qR (some (.int v.1)) v.2 E)) (K70 : ∀ (l1 : Int32) (l3 : Int32) (l4 : Int32) (l5 : Int32) (D : mx_D) (v : Int32 × mx_D), k70 l1 l3 l4 l5 D = some v → ev X (d + 1) 157 (70, [some (.ref 0), some (.int l1), none, some (.int l3), some (.int l4), some (.int l5)], [], D, E) (qR (some (.int v.1)) v.2 E)) (l1 : Int32) (l3 : Int32) (l4 : Int32) (l5 : Int32) (D : mx_D) (v : Int32 × mx_D) (h : b_X_seat_70 F k55 k70 l1 l3 l4 l5 D = some v) : ev X (d + 1) 157 (70, [some (.ref 0), some (.int l1), none, some (.int l3), some (.int l4), some (.int l5)], [], D, E) (qR (some (.int v.1)) v.2 E) := by
  have hq : kq_m 157 = some kq_q157 := rfl
  unfold b_X_seat_70 at h
  refine gv_n hq 4 (S' := (79, [some (.ref 0), some (.int l1), none, some (.int l3), some (.int l4), some (.int l5)], [.int (D 19 1), .int l5], D, E)) rfl ?_
  refine gv_b hq rfl h 150 82 rfl rfl rfl (fun h => ?_) (fun h => ?_)
  · refine gv_n hq 2 (S' := (55, [some (.ref 0), some (.int l1), none, some (.int l3), some (.int (l4 + (nI 1))), some (.int l5)], [], D, E)) rfl ?_
    exact gv_w (K55 _ _ _ _ _ h) (And.intro rfl (And.intro rfl (And.intro rfl (And.intro rfl trivial))))
  · refine gv_n hq 4 (S' := (90, [some (.ref 0), some (.int l1), none, some (.int l3), some (.int l4), some (.int l5)], [.int l5, .int l4, .ref 19], D, E)) rfl ?_
    obtain ⟨r4, h1, h⟩ := Option.bind_eq_some_iff.mp h
    refine gv_d hq rfl rfl rfl rfl rfl (gv_dd (by omega) (t_Church_sitterAt X F (d - 1) (by omega) D E _ _ _ h1)) (S' := (93, [some (.ref 0), some (.int l1), none, some (.int l3), some (.int l4), some (.int l5)], [.int r4], D, E)) rfl ?_
    refine gv_n hq 1 (S' := (94, [some (.ref 0), some (.int l1), none, some (.int l3), some (.int l4), some (.int l5)], [.int (-1 : Int32), .int r4], D, E)) rfl ?_
    refine gv_b hq rfl h 97 144 rfl rfl rfl (fun h => ?_) (fun h => ?_)
    · refine gv_n hq 9 (S' := (113, [some (.ref 0), some (.int l1), none, some (.int l3), some (.int l4), some (.int l5)], [.int l5, .int l4, .ref 19, .int l3, .int l4, .int l1, .ref 34], D, E)) rfl ?_
      obtain ⟨r5, h1, h⟩ := Option.bind_eq_some_iff.mp h
      refine gv_d hq rfl rfl rfl rfl rfl (gv_dd (by omega) (t_Church_floorAt X (d - 1) (by omega) D E _ _ _ h1)) (S' := (116, [some (.ref 0), some (.int l1), none, some (.int l3), some (.int l4), some (.int l5)], [.int r5, .int l3, .int l4, .int l1, .ref 34], D, E)) rfl ?_
      refine gv_n hq 1 (S' := (117, [some (.ref 0), some (.int l1), none, some (.int l3), some (.int l4), some (.int l5)], [.int (l3 + r5), .int l4, .int l1, .ref 34], D, E)) rfl ?_
      obtain ⟨r6, h1, h⟩ := Option.bind_eq_some_iff.mp h
      refine gv_d hq rfl rfl rfl rfl rfl ((t_Heights_put X d E _ _ _ _ _ h1)) (S' := (120, [some (.ref 0), some (.int l1), none, some (.int l3), some (.int l4), some (.int l5)], [], r6, E)) rfl ?_
      refine gv_n hq 1 (S' := (121, [some (.ref 0), some (.int l1), none, some (.int l3), some (.int l4), some (.int l5)], [.ref 0], r6, E)) rfl ?_
      obtain ⟨r7, h1, h⟩ := Option.bind_eq_some_iff.mp h
      refine gv_d hq rfl rfl rfl rfl rfl (gv_dd (by omega) (t_X_allAreLevel X F (d - 1) (by omega) r6 E _ h1)) (S' := (124, [some (.ref 0), some (.int l1), none, some (.int l3), some (.int l4), some (.int l5)], [.int r7], r6, E)) rfl ?_
      refine gv_b hq rfl h 136 127 rfl rfl rfl (fun h => ?_) (fun h => ?_)
      · refine gv_n hq 3 (S' := (141, [some (.ref 0), some (.int l1), none, some (.int l3), some (.int l4), some (.int l5)], [.int l1, .ref 34], r6, E)) rfl ?_
        obtain ⟨r8, h1, h⟩ := Option.bind_eq_some_iff.mp h
        refine gv_d hq rfl rfl rfl rfl rfl ((t_Heights_drop X F d E _ _ _ h1)) (S' := (144, [some (.ref 0), some (.int l1), none, some (.int l3), some (.int l4), some (.int l5)], [], r8, E)) rfl ?_
        refine gv_n hq 2 (S' := (70, [some (.ref 0), some (.int l1), none, some (.int l3), some (.int l4), some (.int (l5 + (nI 1)))], [], r8, E)) rfl ?_
        exact gv_w (K70 _ _ _ _ _ _ h) (And.intro rfl (And.intro rfl (And.intro rfl (And.intro rfl (And.intro rfl trivial)))))
      · refine gv_n hq 5 (S' := (135, [some (.ref 0), some (.int l1), none, some (.int l3), some (.int l4), some (.int l5)], [.int (((nI 100) * l4) + l5)], r6, E)) rfl ?_
        cases h
        exact ev_ret hq rfl rfl ⟨rfl, rfl, rfl⟩
    · refine gv_n hq 2 (S' := (70, [some (.ref 0), some (.int l1), none, some (.int l3), some (.int l4), some (.int (l5 + (nI 1)))], [], D, E)) rfl ?_
      exact gv_w (K70 _ _ _ _ _ _ h) (And.intro rfl (And.intro rfl (And.intro rfl (And.intro rfl (And.intro rfl trivial)))))
def g_X_seat_70 (F : Nat) (k55 : Int32 → Int32 → Int32 → mx_D → Option (Int32 × mx_D)) : Nat → Int32 → Int32 → Int32 → Int32 → mx_D → Option (Int32 × mx_D) := it (fun k70 => b_X_seat_70 F k55 k70) (fun _ _ _ _ _ => none)
set_option maxRecDepth 100000 in
set_option maxHeartbeats 4000000 in
theorem t_X_seat_70 (X : ev_X) (F : Nat) (d : Nat) (hd : 5 ≤ d + 1) (E : mx_E) (k55 : Int32 → Int32 → Int32 → mx_D → Option (Int32 × mx_D)) (K55 : ∀ (l1 : Int32) (l3 : Int32) (l4 : Int32) (D : mx_D) (v : Int32 × mx_D), k55 l1 l3 l4 D = some v → ev X (d + 1) 157 (55, [some (.ref 0), some (.int l1), none, some (.int l3), some (.int l4), none], [], D, E) (qR (some (.int v.1)) v.2 E)) : ∀ (n : Nat) (l1 : Int32) (l3 : Int32) (l4 : Int32) (l5 : Int32) (D : mx_D) (v : Int32 × mx_D), g_X_seat_70 F k55 n l1 l3 l4 l5 D = some v → ev X (d + 1) 157 (70, [some (.ref 0), some (.int l1), none, some (.int l3), some (.int l4), some (.int l5)], [], D, E) (qR (some (.int v.1)) v.2 E) := by
  intro n
  induction n with
  | zero => intro l1 l3 l4 l5 D v h; cases h
  | succ n ih => intro l1 l3 l4 l5 D v h; exact tb_X_seat_70 X F d hd E k55 (g_X_seat_70 F k55 n) K55 ih l1 l3 l4 l5 D v h
def b_X_seat_55 (F : Nat) (k55 : Int32 → Int32 → Int32 → mx_D → Option (Int32 × mx_D)) (l1 : Int32) (l3 : Int32) (l4 : Int32) (D : mx_D) : Option (Int32 × mx_D) := (if (D 19 0) ≤ l4 then (some ((-1 : Int32), D)) else (g_X_seat_70 F k55 F l1 l3 l4 (nI 0) D))
set_option maxRecDepth 100000 in
set_option maxHeartbeats 4000000 in
theorem tb_X_seat_55 (X : ev_X) (F : Nat) (d : Nat) (hd : 5 ≤ d + 1) (E : mx_E) (k55 : Int32 → Int32 → Int32 → mx_D → Option (Int32 × mx_D)) (K55 : ∀ (l1 : Int32) (l3 : Int32) (l4 : Int32) (D : mx_D) (v : Int32 × mx_D), k55 l1 l3 l4 D = some v → ev X (d + 1) 157 (55, [some (.ref 0), some (.int l1), none, some (.int l3), some (.int l4), none], [], D, E) (qR (some (.int v.1)) v.2 E)) (l1 : Int32) (l3 : Int32) (l4 : Int32) (D : mx_D) (v : Int32 × mx_D) (h : b_X_seat_55 F k55 l1 l3 l4 D = some v) : ev X (d + 1) 157 (55, [some (.ref 0), some (.int l1), none, some (.int l3), some (.int l4), none], [], D, E) (qR (some (.int v.1)) v.2 E) := by
  have hq : kq_m 157 = some kq_q157 := rfl
  unfold b_X_seat_55 at h
  refine gv_n hq 4 (S' := (64, [some (.ref 0), some (.int l1), none, some (.int l3), some (.int l4), none], [.int (D 19 0), .int l4], D, E)) rfl ?_
  refine gv_b hq rfl h 156 67 rfl rfl rfl (fun h => ?_) (fun h => ?_)
  · refine gv_n hq 1 (S' := (157, [some (.ref 0), some (.int l1), none, some (.int l3), some (.int l4), none], [.int (-1 : Int32)], D, E)) rfl ?_
    cases h
    exact ev_ret hq rfl rfl ⟨rfl, rfl, rfl⟩
  · refine gv_n hq 2 (S' := (70, [some (.ref 0), some (.int l1), none, some (.int l3), some (.int l4), some (.int (nI 0))], [], D, E)) rfl ?_
    exact gv_w (t_X_seat_70 X F d hd E k55 K55 F _ _ _ _ _ _ h) (And.intro rfl (And.intro rfl (And.intro rfl (And.intro rfl (And.intro rfl trivial)))))
def g_X_seat_55 (F : Nat) : Nat → Int32 → Int32 → Int32 → mx_D → Option (Int32 × mx_D) := it (fun k55 => b_X_seat_55 F k55) (fun _ _ _ _ => none)
set_option maxRecDepth 100000 in
set_option maxHeartbeats 4000000 in
theorem t_X_seat_55 (X : ev_X) (F : Nat) (d : Nat) (hd : 5 ≤ d + 1) (E : mx_E)  : ∀ (n : Nat) (l1 : Int32) (l3 : Int32) (l4 : Int32) (D : mx_D) (v : Int32 × mx_D), g_X_seat_55 F n l1 l3 l4 D = some v → ev X (d + 1) 157 (55, [some (.ref 0), some (.int l1), none, some (.int l3), some (.int l4), none], [], D, E) (qR (some (.int v.1)) v.2 E) := by
  intro n
  induction n with
  | zero => intro l1 l3 l4 D v h; cases h
  | succ n ih => intro l1 l3 l4 D v h; exact tb_X_seat_55 X F d hd E (g_X_seat_55 F n) ih l1 l3 l4 D v h
def g_X_seat (F : Nat) (a1 : Int32) (a2 : Int32) (D : mx_D) : Option (Int32 × mx_D) := (if (g_X_canAsk D a2) = 0 then (some ((-2 : Int32), D)) else (if (g_Church_hasPerson D a1) = 0 then (some ((-2 : Int32), D)) else (Option.bind (g_Heights_take F a2 D) (fun r1 => (Option.bind (g_Heights_drop F a1 r1) (fun r2 => (Option.bind (g_Church_standingHigh F r2 a1 a2) (fun r3 => (g_X_seat_55 F F a1 r3 (nI 0) r2)))))))))
set_option maxRecDepth 100000 in
set_option maxHeartbeats 4000000 in
theorem t_X_seat (X : ev_X) (F : Nat) (d : Nat) (hd : 5 ≤ d + 1) (E : mx_E) (a1 : Int32) (a2 : Int32) (D : mx_D) (v : Int32 × mx_D) (h : g_X_seat F a1 a2 D = some v) : ev X (d + 1) 157 (0, [some (.ref 0), some (.int a1), some (.int a2), none, none, none], [], D, E) (qR (some (.int v.1)) v.2 E) := by
  have hq : kq_m 157 = some kq_q157 := rfl
  unfold g_X_seat at h
  refine gv_n hq 2 (S' := (2, [some (.ref 0), some (.int a1), some (.int a2), none, none, none], [.int a2, .ref 0], D, E)) rfl ?_
  refine gv_d hq rfl rfl rfl rfl rfl (gv_dd (by omega) (t_X_canAsk X (d - 1) (by omega) D E _ _ rfl)) (S' := (5, [some (.ref 0), some (.int a1), some (.int a2), none, none, none], [.int (g_X_canAsk D a2)], D, E)) rfl ?_
  refine gv_b hq rfl h 19 8 rfl rfl rfl (fun h => ?_) (fun h => ?_)
  · refine gv_n hq 1 (S' := (21, [some (.ref 0), some (.int a1), some (.int a2), none, none, none], [.int (-2 : Int32)], D, E)) rfl ?_
    cases h
    exact ev_ret hq rfl rfl ⟨rfl, rfl, rfl⟩
  · refine gv_n hq 3 (S' := (13, [some (.ref 0), some (.int a1), some (.int a2), none, none, none], [.int a1, .ref 19], D, E)) rfl ?_
    refine gv_d hq rfl rfl rfl rfl rfl ((t_Church_hasPerson X d D E _ _ rfl)) (S' := (16, [some (.ref 0), some (.int a1), some (.int a2), none, none, none], [.int (g_Church_hasPerson D a1)], D, E)) rfl ?_
    refine gv_b hq rfl h 19 22 rfl rfl rfl (fun h => ?_) (fun h => ?_)
    · refine gv_n hq 1 (S' := (21, [some (.ref 0), some (.int a1), some (.int a2), none, none, none], [.int (-2 : Int32)], D, E)) rfl ?_
      cases h
      exact ev_ret hq rfl rfl ⟨rfl, rfl, rfl⟩
    · refine gv_n hq 5 (S' := (31, [some (.ref 0), some (.int a1), some (.int a2), none, none, none], [.int a2, .ref 19, .ref 34], D, E)) rfl ?_
      obtain ⟨r1, h1, h⟩ := Option.bind_eq_some_iff.mp h
      refine gv_d hq rfl rfl rfl rfl rfl (gv_dd (by omega) (t_Heights_take X F (d - 1) (by omega) E _ _ _ h1)) (S' := (34, [some (.ref 0), some (.int a1), some (.int a2), none, none, none], [], r1, E)) rfl ?_
      refine gv_n hq 3 (S' := (39, [some (.ref 0), some (.int a1), some (.int a2), none, none, none], [.int a1, .ref 34], r1, E)) rfl ?_
      obtain ⟨r2, h1, h⟩ := Option.bind_eq_some_iff.mp h
      refine gv_d hq rfl rfl rfl rfl rfl ((t_Heights_drop X F d E _ _ _ h1)) (S' := (42, [some (.ref 0), some (.int a1), some (.int a2), none, none, none], [], r2, E)) rfl ?_
      refine gv_n hq 4 (S' := (48, [some (.ref 0), some (.int a1), some (.int a2), none, none, none], [.int a2, .int a1, .ref 19], r2, E)) rfl ?_
      obtain ⟨r3, h1, h⟩ := Option.bind_eq_some_iff.mp h
      refine gv_d hq rfl rfl rfl rfl rfl (gv_dd (by omega) (t_Church_standingHigh X F (d - 1) (by omega) r2 E _ _ _ h1)) (S' := (51, [some (.ref 0), some (.int a1), some (.int a2), none, none, none], [.int r3], r2, E)) rfl ?_
      refine gv_n hq 3 (S' := (55, [some (.ref 0), some (.int a1), some (.int a2), some (.int r3), some (.int (nI 0)), none], [], r2, E)) rfl ?_
      exact gv_w (t_X_seat_55 X F d hd E F _ _ _ _ _ h) (And.intro rfl (And.intro rfl (And.intro rfl (And.intro rfl trivial))))
def g_M_put (a1 : Int32) (a2 : Int32) (a3 : Int32) (D : mx_D) : Option (mx_D) := (Option.bind (g_M_set a1 (nI 3) a2 D) (fun r1 => (Option.bind (g_M_set a1 (nI 4) a3 r1) (fun r2 => (some r2)))))
set_option maxRecDepth 100000 in
set_option maxHeartbeats 4000000 in
theorem t_M_put (X : ev_X) (d : Nat) (hd : 1 ≤ d + 1) (E : mx_E) (a1 : Int32) (a2 : Int32) (a3 : Int32) (D : mx_D) (v : mx_D) (h : g_M_put a1 a2 a3 D = some v) : ev X (d + 1) 299 (0, [some (.ref 116), some (.int a1), some (.int a2), some (.int a3)], [], D, E) (qR none v E) := by
  have hq : kq_m 299 = some kq_q299 := rfl
  unfold g_M_put at h
  refine gv_n hq 4 (S' := (4, [some (.ref 116), some (.int a1), some (.int a2), some (.int a3)], [.int a2, .int (nI 3), .int a1, .ref 116], D, E)) rfl ?_
  obtain ⟨r1, h1, h⟩ := Option.bind_eq_some_iff.mp h
  refine gv_d hq rfl rfl rfl rfl rfl ((t_M_set X d E _ _ _ _ _ h1)) (S' := (7, [some (.ref 116), some (.int a1), some (.int a2), some (.int a3)], [], r1, E)) rfl ?_
  refine gv_n hq 4 (S' := (11, [some (.ref 116), some (.int a1), some (.int a2), some (.int a3)], [.int a3, .int (nI 4), .int a1, .ref 116], r1, E)) rfl ?_
  obtain ⟨r2, h1, h⟩ := Option.bind_eq_some_iff.mp h
  refine gv_d hq rfl rfl rfl rfl rfl ((t_M_set X d E _ _ _ _ _ h1)) (S' := (14, [some (.ref 116), some (.int a1), some (.int a2), some (.int a3)], [], r2, E)) rfl ?_
  cases h
  exact ev_ret hq rfl rfl ⟨rfl, rfl, rfl⟩
def b_M_seat_40 (F : Nat) (k40 : Int32 → Int32 → Int32 → Int32 → Int32 → Int32 → mx_D → Option (Int32 × mx_D)) (l1 : Int32) (l2 : Int32) (l3 : Int32) (l4 : Int32) (l5 : Int32) (l6 : Int32) (D : mx_D) : Option (Int32 × mx_D) := (if ((D 117 0) * (D 117 1)) ≤ l6 then (some (l5, D)) else (if l5 = (-1 : Int32) then (dk (D 117 1) (dk (D 117 1) (Option.bind (g_M_sitterAt F D (l6 / (D 117 1)) (l6 - l6 / (D 117 1) * (D 117 1))) (fun r3 => (if r3 = (-1 : Int32) then (Option.bind (g_M_put l1 (l6 / (D 117 1)) (l6 - l6 / (D 117 1) * (D 117 1)) D) (fun r4 => (Option.bind (g_M_isLevel F l2 r4) (fun r5 => (if r5.1 = 0 then (Option.bind (g_M_put l1 l3 l4 r5.2) (fun r6 => (k40 l1 l2 l3 l4 (-1 : Int32) (l6 + (nI 1)) r6))) else (Option.bind (g_M_put l1 l3 l4 r5.2) (fun r7 => (k40 l1 l2 l3 l4 (((nI 100) * (l6 / (D 117 1))) + (l6 - l6 / (D 117 1) * (D 117 1))) (l6 + (nI 1)) r7)))))))) else (k40 l1 l2 l3 l4 l5 (l6 + (nI 1)) D)))))) else (some (l5, D))))
set_option maxRecDepth 100000 in
set_option maxHeartbeats 4000000 in
theorem tb_M_seat_40 (X : ev_X) (F : Nat) (d : Nat) (hd : 6 ≤ d + 1) (E : mx_E) (k40 : Int32 → Int32 → Int32 → Int32 → Int32 → Int32 → mx_D → Option (Int32 × mx_D)) (K40 : ∀ (l1 : Int32) (l2 : Int32) (l3 : Int32) (l4 : Int32) (l5 : Int32) (l6 : Int32) (D : mx_D) (v : Int32 × mx_D), k40 l1 l2 l3 l4 l5 l6 D = some v → ev X (d + 1) 298 (40, [some (.ref 116), some (.int l1), some (.int l2), some (.int l3), some (.int l4), some (.int l5), some (.int l6), none, none], [], D, E) (qR (some (.int v.1)) v.2 E)) (l1 : Int32) (l2 : Int32) (l3 : Int32) (l4 : Int32) (l5 : Int32) (l6 : Int32) (D : mx_D) (v : Int32 × mx_D) (h : b_M_seat_40 F k40 l1 l2 l3 l4 l5 l6 D = some v) : ev X (d + 1) 298 (40, [some (.ref 116), some (.int l1), some (.int l2), some (.int l3), some (.int l4), some (.int l5), some (.int l6), none, none], [], D, E) (qR (some (.int v.1)) v.2 E) := by
  have hq : kq_m 298 = some kq_q298 := rfl
  unfold b_M_seat_40 at h
  refine gv_n hq 10 (S' := (55, [some (.ref 116), some (.int l1), some (.int l2), some (.int l3), some (.int l4), some (.int l5), some (.int l6), none, none], [.int ((D 117 0) * (D 117 1)), .int l6], D, E)) rfl ?_
  refine gv_b hq rfl h 146 58 rfl rfl rfl (fun h => ?_) (fun h => ?_)
  · refine gv_n hq 1 (S' := (148, [some (.ref 116), some (.int l1), some (.int l2), some (.int l3), some (.int l4), some (.int l5), some (.int l6), none, none], [.int l5], D, E)) rfl ?_
    cases h
    exact ev_ret hq rfl rfl ⟨rfl, rfl, rfl⟩
  · refine gv_n hq 2 (S' := (61, [some (.ref 116), some (.int l1), some (.int l2), some (.int l3), some (.int l4), some (.int l5), some (.int l6), none, none], [.int (-1 : Int32), .int l5], D, E)) rfl ?_
    refine gv_b hq rfl h 64 146 rfl rfl rfl (fun h => ?_) (fun h => ?_)
    · refine gv_n hq 5 (S' := (72, [some (.ref 116), some (.int l1), some (.int l2), some (.int l3), some (.int l4), some (.int l5), some (.int l6), none, none], [.int (D 117 1), .int l6], D, E)) rfl ?_
      refine gv_idiv hq rfl h 73 rfl (fun h => ?_)
      refine gv_n hq 6 (S' := (83, [some (.ref 116), some (.int l1), some (.int l2), some (.int l3), some (.int l4), some (.int l5), some (.int l6), some (.int (l6 / (D 117 1))), none], [.int (D 117 1), .int l6], D, E)) rfl ?_
      refine gv_irem hq rfl h 84 rfl (fun h => ?_)
      refine gv_n hq 4 (S' := (91, [some (.ref 116), some (.int l1), some (.int l2), some (.int l3), some (.int l4), some (.int l5), some (.int l6), some (.int (l6 / (D 117 1))), some (.int (l6 - l6 / (D 117 1) * (D 117 1)))], [.int (l6 - l6 / (D 117 1) * (D 117 1)), .int (l6 / (D 117 1)), .ref 116], D, E)) rfl ?_
      obtain ⟨r3, h1, h⟩ := Option.bind_eq_some_iff.mp h
      refine gv_d hq rfl rfl rfl rfl rfl (gv_dd (by omega) (t_M_sitterAt X F (d - 1) (by omega) D E _ _ _ h1)) (S' := (94, [some (.ref 116), some (.int l1), some (.int l2), some (.int l3), some (.int l4), some (.int l5), some (.int l6), some (.int (l6 / (D 117 1))), some (.int (l6 - l6 / (D 117 1) * (D 117 1)))], [.int r3], D, E)) rfl ?_
      refine gv_n hq 1 (S' := (95, [some (.ref 116), some (.int l1), some (.int l2), some (.int l3), some (.int l4), some (.int l5), some (.int l6), some (.int (l6 / (D 117 1))), some (.int (l6 - l6 / (D 117 1) * (D 117 1)))], [.int (-1 : Int32), .int r3], D, E)) rfl ?_
      refine gv_b hq rfl h 101 98 rfl rfl rfl (fun h => ?_) (fun h => ?_)
      · refine gv_n hq 4 (S' := (107, [some (.ref 116), some (.int l1), some (.int l2), some (.int l3), some (.int l4), some (.int l5), some (.int l6), some (.int (l6 / (D 117 1))), some (.int (l6 - l6 / (D 117 1) * (D 117 1)))], [.int (l6 - l6 / (D 117 1) * (D 117 1)), .int (l6 / (D 117 1)), .int l1, .ref 116], D, E)) rfl ?_
        obtain ⟨r4, h1, h⟩ := Option.bind_eq_some_iff.mp h
        refine gv_d hq rfl rfl rfl rfl rfl (gv_dd (by omega) (t_M_put X (d - 1) (by omega) E _ _ _ _ _ h1)) (S' := (110, [some (.ref 116), some (.int l1), some (.int l2), some (.int l3), some (.int l4), some (.int l5), some (.int l6), some (.int (l6 / (D 117 1))), some (.int (l6 - l6 / (D 117 1) * (D 117 1)))], [], r4, E)) rfl ?_
        refine gv_n hq 2 (S' := (112, [some (.ref 116), some (.int l1), some (.int l2), some (.int l3), some (.int l4), some (.int l5), some (.int l6), some (.int (l6 / (D 117 1))), some (.int (l6 - l6 / (D 117 1) * (D 117 1)))], [.int l2, .ref 116], r4, E)) rfl ?_
        obtain ⟨r5, h1, h⟩ := Option.bind_eq_some_iff.mp h
        refine gv_d hq rfl rfl rfl rfl rfl (gv_dd (by omega) (t_M_isLevel X F (d - 1) (by omega) E _ _ _ h1)) (S' := (115, [some (.ref 116), some (.int l1), some (.int l2), some (.int l3), some (.int l4), some (.int l5), some (.int l6), some (.int (l6 / (D 117 1))), some (.int (l6 - l6 / (D 117 1) * (D 117 1)))], [.int r5.1], r5.2, E)) rfl ?_
        refine gv_b hq rfl h 129 118 rfl rfl rfl (fun h => ?_) (fun h => ?_)
        · refine gv_n hq 6 (S' := (137, [some (.ref 116), some (.int l1), some (.int l2), some (.int l3), some (.int l4), some (.int (-1 : Int32)), some (.int l6), some (.int (l6 / (D 117 1))), some (.int (l6 - l6 / (D 117 1) * (D 117 1)))], [.int l4, .int l3, .int l1, .ref 116], r5.2, E)) rfl ?_
          obtain ⟨r6, h1, h⟩ := Option.bind_eq_some_iff.mp h
          refine gv_d hq rfl rfl rfl rfl rfl (gv_dd (by omega) (t_M_put X (d - 1) (by omega) E _ _ _ _ _ h1)) (S' := (140, [some (.ref 116), some (.int l1), some (.int l2), some (.int l3), some (.int l4), some (.int (-1 : Int32)), some (.int l6), some (.int (l6 / (D 117 1))), some (.int (l6 - l6 / (D 117 1) * (D 117 1)))], [], r6, E)) rfl ?_
          refine gv_n hq 2 (S' := (40, [some (.ref 116), some (.int l1), some (.int l2), some (.int l3), some (.int l4), some (.int (-1 : Int32)), some (.int (l6 + (nI 1))), some (.int (l6 / (D 117 1))), some (.int (l6 - l6 / (D 117 1) * (D 117 1)))], [], r6, E)) rfl ?_
          exact gv_w (K40 _ _ _ _ _ _ _ _ h) (And.intro rfl (And.intro rfl (And.intro rfl (And.intro rfl (And.intro rfl (And.intro rfl (And.intro rfl trivial)))))))
        · refine gv_n hq 11 (S' := (137, [some (.ref 116), some (.int l1), some (.int l2), some (.int l3), some (.int l4), some (.int (((nI 100) * (l6 / (D 117 1))) + (l6 - l6 / (D 117 1) * (D 117 1)))), some (.int l6), some (.int (l6 / (D 117 1))), some (.int (l6 - l6 / (D 117 1) * (D 117 1)))], [.int l4, .int l3, .int l1, .ref 116], r5.2, E)) rfl ?_
          obtain ⟨r7, h1, h⟩ := Option.bind_eq_some_iff.mp h
          refine gv_d hq rfl rfl rfl rfl rfl (gv_dd (by omega) (t_M_put X (d - 1) (by omega) E _ _ _ _ _ h1)) (S' := (140, [some (.ref 116), some (.int l1), some (.int l2), some (.int l3), some (.int l4), some (.int (((nI 100) * (l6 / (D 117 1))) + (l6 - l6 / (D 117 1) * (D 117 1)))), some (.int l6), some (.int (l6 / (D 117 1))), some (.int (l6 - l6 / (D 117 1) * (D 117 1)))], [], r7, E)) rfl ?_
          refine gv_n hq 2 (S' := (40, [some (.ref 116), some (.int l1), some (.int l2), some (.int l3), some (.int l4), some (.int (((nI 100) * (l6 / (D 117 1))) + (l6 - l6 / (D 117 1) * (D 117 1)))), some (.int (l6 + (nI 1))), some (.int (l6 / (D 117 1))), some (.int (l6 - l6 / (D 117 1) * (D 117 1)))], [], r7, E)) rfl ?_
          exact gv_w (K40 _ _ _ _ _ _ _ _ h) (And.intro rfl (And.intro rfl (And.intro rfl (And.intro rfl (And.intro rfl (And.intro rfl (And.intro rfl trivial)))))))
      · refine gv_n hq 3 (S' := (40, [some (.ref 116), some (.int l1), some (.int l2), some (.int l3), some (.int l4), some (.int l5), some (.int (l6 + (nI 1))), some (.int (l6 / (D 117 1))), some (.int (l6 - l6 / (D 117 1) * (D 117 1)))], [], D, E)) rfl ?_
        exact gv_w (K40 _ _ _ _ _ _ _ _ h) (And.intro rfl (And.intro rfl (And.intro rfl (And.intro rfl (And.intro rfl (And.intro rfl (And.intro rfl trivial)))))))
    · refine gv_n hq 1 (S' := (148, [some (.ref 116), some (.int l1), some (.int l2), some (.int l3), some (.int l4), some (.int l5), some (.int l6), none, none], [.int l5], D, E)) rfl ?_
      cases h
      exact ev_ret hq rfl rfl ⟨rfl, rfl, rfl⟩
def g_M_seat_40 (F : Nat) : Nat → Int32 → Int32 → Int32 → Int32 → Int32 → Int32 → mx_D → Option (Int32 × mx_D) := it (fun k40 => b_M_seat_40 F k40) (fun _ _ _ _ _ _ _ => none)
set_option maxRecDepth 100000 in
set_option maxHeartbeats 4000000 in
theorem t_M_seat_40 (X : ev_X) (F : Nat) (d : Nat) (hd : 6 ≤ d + 1) (E : mx_E)  : ∀ (n : Nat) (l1 : Int32) (l2 : Int32) (l3 : Int32) (l4 : Int32) (l5 : Int32) (l6 : Int32) (D : mx_D) (v : Int32 × mx_D), g_M_seat_40 F n l1 l2 l3 l4 l5 l6 D = some v → ev X (d + 1) 298 (40, [some (.ref 116), some (.int l1), some (.int l2), some (.int l3), some (.int l4), some (.int l5), some (.int l6), none, none], [], D, E) (qR (some (.int v.1)) v.2 E) := by
  intro n
  induction n with
  | zero => intro l1 l2 l3 l4 l5 l6 D v h; cases h
  | succ n ih => intro l1 l2 l3 l4 l5 l6 D v h; exact tb_M_seat_40 X F d hd E (g_M_seat_40 F n) ih l1 l2 l3 l4 l5 l6 D v h
def g_M_seat (F : Nat) (a1 : Int32) (a2 : Int32) (D : mx_D) : Option (Int32 × mx_D) := (if (g_M_isPerson D a1) = 0 then (some ((-2 : Int32), D)) else (if (g_M_isYear D a2) = 0 then (some ((-2 : Int32), D)) else (Option.bind (g_M_of D a1 (nI 3)) (fun r1 => (Option.bind (g_M_of D a1 (nI 4)) (fun r2 => (g_M_seat_40 F F a1 a2 r1 r2 (-1 : Int32) (nI 0) D)))))))
set_option maxRecDepth 100000 in
set_option maxHeartbeats 4000000 in
theorem t_M_seat (X : ev_X) (F : Nat) (d : Nat) (hd : 6 ≤ d + 1) (E : mx_E) (a1 : Int32) (a2 : Int32) (D : mx_D) (v : Int32 × mx_D) (h : g_M_seat F a1 a2 D = some v) : ev X (d + 1) 298 (0, [some (.ref 116), some (.int a1), some (.int a2), none, none, none, none, none, none], [], D, E) (qR (some (.int v.1)) v.2 E) := by
  have hq : kq_m 298 = some kq_q298 := rfl
  unfold g_M_seat at h
  refine gv_n hq 2 (S' := (2, [some (.ref 116), some (.int a1), some (.int a2), none, none, none, none, none, none], [.int a1, .ref 116], D, E)) rfl ?_
  refine gv_d hq rfl rfl rfl rfl rfl (gv_dd (by omega) (t_M_isPerson X (d - 1) (by omega) D E _ _ rfl)) (S' := (5, [some (.ref 116), some (.int a1), some (.int a2), none, none, none, none, none, none], [.int (g_M_isPerson D a1)], D, E)) rfl ?_
  refine gv_b hq rfl h 16 8 rfl rfl rfl (fun h => ?_) (fun h => ?_)
  · refine gv_n hq 1 (S' := (18, [some (.ref 116), some (.int a1), some (.int a2), none, none, none, none, none, none], [.int (-2 : Int32)], D, E)) rfl ?_
    cases h
    exact ev_ret hq rfl rfl ⟨rfl, rfl, rfl⟩
  · refine gv_n hq 2 (S' := (10, [some (.ref 116), some (.int a1), some (.int a2), none, none, none, none, none, none], [.int a2, .ref 116], D, E)) rfl ?_
    refine gv_d hq rfl rfl rfl rfl rfl (gv_dd (by omega) (t_M_isYear X (d - 1) (by omega) D E _ _ rfl)) (S' := (13, [some (.ref 116), some (.int a1), some (.int a2), none, none, none, none, none, none], [.int (g_M_isYear D a2)], D, E)) rfl ?_
    refine gv_b hq rfl h 16 19 rfl rfl rfl (fun h => ?_) (fun h => ?_)
    · refine gv_n hq 1 (S' := (18, [some (.ref 116), some (.int a1), some (.int a2), none, none, none, none, none, none], [.int (-2 : Int32)], D, E)) rfl ?_
      cases h
      exact ev_ret hq rfl rfl ⟨rfl, rfl, rfl⟩
    · refine gv_n hq 3 (S' := (22, [some (.ref 116), some (.int a1), some (.int a2), none, none, none, none, none, none], [.int (nI 3), .int a1, .ref 116], D, E)) rfl ?_
      obtain ⟨r1, h1, h⟩ := Option.bind_eq_some_iff.mp h
      refine gv_d hq rfl rfl rfl rfl rfl ((t_M_of X d D E _ _ _ h1)) (S' := (25, [some (.ref 116), some (.int a1), some (.int a2), none, none, none, none, none, none], [.int r1], D, E)) rfl ?_
      refine gv_n hq 4 (S' := (29, [some (.ref 116), some (.int a1), some (.int a2), some (.int r1), none, none, none, none, none], [.int (nI 4), .int a1, .ref 116], D, E)) rfl ?_
      obtain ⟨r2, h1, h⟩ := Option.bind_eq_some_iff.mp h
      refine gv_d hq rfl rfl rfl rfl rfl ((t_M_of X d D E _ _ _ h1)) (S' := (32, [some (.ref 116), some (.int a1), some (.int a2), some (.int r1), none, none, none, none, none], [.int r2], D, E)) rfl ?_
      refine gv_n hq 5 (S' := (40, [some (.ref 116), some (.int a1), some (.int a2), some (.int r1), some (.int r2), some (.int (-1 : Int32)), some (.int (nI 0)), none, none], [], D, E)) rfl ?_
      exact gv_w (t_M_seat_40 X F d hd E F _ _ _ _ _ _ _ _ h) (And.intro rfl (And.intro rfl (And.intro rfl (And.intro rfl (And.intro rfl (And.intro rfl (And.intro rfl trivial)))))))
def b_X_sits_89 (F : Nat) (l1 : Int32) (l2 : Int32) (l3 : Int32) (s0 : Int32) (D : mx_D) : Option (Int32 × mx_D) := (rk 8 l1 (if l2 = (-1 : Int32) then (rk 8 l1 (some (s0, (sD (sD D 28 (l1).toNatClampNeg l2) 29 (l1).toNatClampNeg (-1 : Int32))))) else (rk 8 l1 (some (s0, (sD (sD D 28 (l1).toNatClampNeg l2) 29 (l1).toNatClampNeg l3))))))
set_option maxRecDepth 100000 in
set_option maxHeartbeats 4000000 in
theorem tb_X_sits_89 (X : ev_X) (F : Nat) (d : Nat) (hd : 3 ≤ d + 1) (E : mx_E)  (l1 : Int32) (l2 : Int32) (l3 : Int32) (s0 : Int32) (D : mx_D) (v : Int32 × mx_D) (h : b_X_sits_89 F l1 l2 l3 s0 D = some v) : ev X (d + 1) 158 (89, [none, some (.int l1), some (.int l2), some (.int l3), some (.ref 24), none], [.int s0], D, E) (qR (some (.int v.1)) v.2 E) := by
  have hq : kq_m 158 = some kq_q158 := rfl
  unfold b_X_sits_89 at h
  refine gv_n hq 5 (S' := (98, [none, some (.int l1), some (.int l2), some (.int l3), some (.ref 24), some (.int s0)], [.int l2, .int l1, .ref 28], D, E)) rfl ?_
  refine gv_is hq rfl rfl h 99 rfl (fun h => ?_)
  refine gv_n hq 5 (S' := (107, [none, some (.int l1), some (.int l2), some (.int l3), some (.ref 24), some (.int s0)], [.int (-1 : Int32), .int l2, .int l1, .ref 29], (sD D 28 (l1).toNatClampNeg l2), E)) rfl ?_
  refine gv_b hq rfl h 110 114 rfl rfl rfl (fun h => ?_) (fun h => ?_)
  · refine gv_n hq 2 (S' := (115, [none, some (.int l1), some (.int l2), some (.int l3), some (.ref 24), some (.int s0)], [.int (-1 : Int32), .int l1, .ref 29], (sD D 28 (l1).toNatClampNeg l2), E)) rfl ?_
    refine gv_is hq rfl rfl h 116 rfl (fun h => ?_)
    refine gv_n hq 1 (S' := (118, [none, some (.int l1), some (.int l2), some (.int l3), some (.ref 24), some (.int s0)], [.int s0], (sD (sD D 28 (l1).toNatClampNeg l2) 29 (l1).toNatClampNeg (-1 : Int32)), E)) rfl ?_
    cases h
    exact ev_ret hq rfl rfl ⟨rfl, rfl, rfl⟩
  · refine gv_n hq 1 (S' := (115, [none, some (.int l1), some (.int l2), some (.int l3), some (.ref 24), some (.int s0)], [.int l3, .int l1, .ref 29], (sD D 28 (l1).toNatClampNeg l2), E)) rfl ?_
    refine gv_is hq rfl rfl h 116 rfl (fun h => ?_)
    refine gv_n hq 1 (S' := (118, [none, some (.int l1), some (.int l2), some (.int l3), some (.ref 24), some (.int s0)], [.int s0], (sD (sD D 28 (l1).toNatClampNeg l2) 29 (l1).toNatClampNeg l3), E)) rfl ?_
    cases h
    exact ev_ret hq rfl rfl ⟨rfl, rfl, rfl⟩
def b_X_sits_47 (F : Nat) (l1 : Int32) (l2 : Int32) (l3 : Int32) (D : mx_D) : Option (Int32 × mx_D) := (Option.bind (g_Church_isSeated D l1) (fun r1 => (if r1 = 0 then (b_X_sits_89 F l1 l2 l3 (-1 : Int32) D) else (rk 8 l1 (rk 8 l1 (b_X_sits_89 F l1 l2 l3 (((nI 100) * (D 28 (l1).toNatClampNeg)) + (D 29 (l1).toNatClampNeg)) D))))))
set_option maxRecDepth 100000 in
set_option maxHeartbeats 4000000 in
theorem tb_X_sits_47 (X : ev_X) (F : Nat) (d : Nat) (hd : 3 ≤ d + 1) (E : mx_E)  (l1 : Int32) (l2 : Int32) (l3 : Int32) (D : mx_D) (v : Int32 × mx_D) (h : b_X_sits_47 F l1 l2 l3 D = some v) : ev X (d + 1) 158 (47, [some (.ref 0), some (.int l1), some (.int l2), some (.int l3), none, none], [], D, E) (qR (some (.int v.1)) v.2 E) := by
  have hq : kq_m 158 = some kq_q158 := rfl
  unfold b_X_sits_47 at h
  refine gv_n hq 7 (S' := (61, [some (.ref 0), some (.int l1), some (.int l2), some (.int l3), some (.ref 24), none], [.int l1, .ref 19], D, E)) rfl ?_
  obtain ⟨r1, h1, h⟩ := Option.bind_eq_some_iff.mp h
  refine gv_d hq rfl rfl rfl rfl rfl (gv_dd (by omega) (t_Church_isSeated X (d - 1) (by omega) D E _ _ h1)) (S' := (64, [some (.ref 0), some (.int l1), some (.int l2), some (.int l3), some (.ref 24), none], [.int r1], D, E)) rfl ?_
  refine gv_b hq rfl h 88 67 rfl rfl rfl (fun h => ?_) (fun h => ?_)
  · refine gv_n hq 1 (S' := (89, [some (.ref 0), some (.int l1), some (.int l2), some (.int l3), some (.ref 24), none], [.int (-1 : Int32)], D, E)) rfl ?_
    exact gv_w (tb_X_sits_89 X F d hd E _ _ _ _ _ _ h) (And.intro rfl (And.intro rfl (And.intro rfl (And.intro rfl trivial))))
  · refine gv_n hq 4 (S' := (75, [some (.ref 0), some (.int l1), some (.int l2), some (.int l3), some (.ref 24), none], [.int l1, .ref 28, .int (nI 100)], D, E)) rfl ?_
    refine gv_ia hq rfl rfl rfl h 76 rfl (fun h => ?_)
    refine gv_n hq 4 (S' := (83, [some (.ref 0), some (.int l1), some (.int l2), some (.int l3), some (.ref 24), none], [.int l1, .ref 29, .int ((nI 100) * (D 28 (l1).toNatClampNeg))], D, E)) rfl ?_
    refine gv_ia hq rfl rfl rfl h 84 rfl (fun h => ?_)
    refine gv_n hq 2 (S' := (89, [some (.ref 0), some (.int l1), some (.int l2), some (.int l3), some (.ref 24), none], [.int (((nI 100) * (D 28 (l1).toNatClampNeg)) + (D 29 (l1).toNatClampNeg))], D, E)) rfl ?_
    exact gv_w (tb_X_sits_89 X F d hd E _ _ _ _ _ _ h) (And.intro rfl (And.intro rfl (And.intro rfl (And.intro rfl trivial))))
def g_X_sits (F : Nat) (a1 : Int32) (a2 : Int32) (a3 : Int32) (D : mx_D) : Option (Int32 × mx_D) := (if (g_Church_hasPerson D a1) = 0 then (some ((-2 : Int32), D)) else (if a2 = (-1 : Int32) then (b_X_sits_47 F a1 a2 a3 D) else (if (g_Church_hasPlace D a2 a3) = 0 then (some ((-2 : Int32), D)) else (Option.bind (g_Church_sitterAt F D a2 a3) (fun r2 => (if r2 = (-1 : Int32) then (b_X_sits_47 F a1 a2 a3 D) else (some ((-2 : Int32), D))))))))
set_option maxRecDepth 100000 in
set_option maxHeartbeats 4000000 in
theorem t_X_sits (X : ev_X) (F : Nat) (d : Nat) (hd : 3 ≤ d + 1) (E : mx_E) (a1 : Int32) (a2 : Int32) (a3 : Int32) (D : mx_D) (v : Int32 × mx_D) (h : g_X_sits F a1 a2 a3 D = some v) : ev X (d + 1) 158 (0, [some (.ref 0), some (.int a1), some (.int a2), some (.int a3), none, none], [], D, E) (qR (some (.int v.1)) v.2 E) := by
  have hq : kq_m 158 = some kq_q158 := rfl
  unfold g_X_sits at h
  refine gv_n hq 3 (S' := (5, [some (.ref 0), some (.int a1), some (.int a2), some (.int a3), none, none], [.int a1, .ref 19], D, E)) rfl ?_
  refine gv_d hq rfl rfl rfl rfl rfl ((t_Church_hasPerson X d D E _ _ rfl)) (S' := (8, [some (.ref 0), some (.int a1), some (.int a2), some (.int a3), none, none], [.int (g_Church_hasPerson D a1)], D, E)) rfl ?_
  refine gv_b hq rfl h 11 14 rfl rfl rfl (fun h => ?_) (fun h => ?_)
  · refine gv_n hq 1 (S' := (13, [some (.ref 0), some (.int a1), some (.int a2), some (.int a3), none, none], [.int (-2 : Int32)], D, E)) rfl ?_
    cases h
    exact ev_ret hq rfl rfl ⟨rfl, rfl, rfl⟩
  · refine gv_n hq 2 (S' := (16, [some (.ref 0), some (.int a1), some (.int a2), some (.int a3), none, none], [.int (-1 : Int32), .int a2], D, E)) rfl ?_
    refine gv_b hq rfl h 47 19 rfl rfl rfl (fun h => ?_) (fun h => ?_)
    · exact gv_w (tb_X_sits_47 X F d hd E _ _ _ _ _ h) (And.intro rfl (And.intro rfl (And.intro rfl (And.intro rfl trivial))))
    · refine gv_n hq 4 (S' := (25, [some (.ref 0), some (.int a1), some (.int a2), some (.int a3), none, none], [.int a3, .int a2, .ref 19], D, E)) rfl ?_
      refine gv_d hq rfl rfl rfl rfl rfl ((t_Church_hasPlace X d D E _ _ _ rfl)) (S' := (28, [some (.ref 0), some (.int a1), some (.int a2), some (.int a3), none, none], [.int (g_Church_hasPlace D a2 a3)], D, E)) rfl ?_
      refine gv_b hq rfl h 44 31 rfl rfl rfl (fun h => ?_) (fun h => ?_)
      · refine gv_n hq 1 (S' := (46, [some (.ref 0), some (.int a1), some (.int a2), some (.int a3), none, none], [.int (-2 : Int32)], D, E)) rfl ?_
        cases h
        exact ev_ret hq rfl rfl ⟨rfl, rfl, rfl⟩
      · refine gv_n hq 4 (S' := (37, [some (.ref 0), some (.int a1), some (.int a2), some (.int a3), none, none], [.int a3, .int a2, .ref 19], D, E)) rfl ?_
        obtain ⟨r2, h1, h⟩ := Option.bind_eq_some_iff.mp h
        refine gv_d hq rfl rfl rfl rfl rfl (gv_dd (by omega) (t_Church_sitterAt X F (d - 1) (by omega) D E _ _ _ h1)) (S' := (40, [some (.ref 0), some (.int a1), some (.int a2), some (.int a3), none, none], [.int r2], D, E)) rfl ?_
        refine gv_n hq 1 (S' := (41, [some (.ref 0), some (.int a1), some (.int a2), some (.int a3), none, none], [.int (-1 : Int32), .int r2], D, E)) rfl ?_
        refine gv_b hq rfl h 47 44 rfl rfl rfl (fun h => ?_) (fun h => ?_)
        · exact gv_w (tb_X_sits_47 X F d hd E _ _ _ _ _ h) (And.intro rfl (And.intro rfl (And.intro rfl (And.intro rfl trivial))))
        · refine gv_n hq 1 (S' := (46, [some (.ref 0), some (.int a1), some (.int a2), some (.int a3), none, none], [.int (-2 : Int32)], D, E)) rfl ?_
          cases h
          exact ev_ret hq rfl rfl ⟨rfl, rfl, rfl⟩
def b_M_sits2_65 (F : Nat) (l1 : Int32) (l2 : Int32) (l3 : Int32) (s0 : Int32) (D : mx_D) : Option (Int32 × mx_D) := (if l2 = (-1 : Int32) then (Option.bind (g_M_put l1 l2 (-1 : Int32) D) (fun r2 => (some (s0, r2)))) else (Option.bind (g_M_put l1 l2 l3 D) (fun r3 => (some (s0, r3)))))
set_option maxRecDepth 100000 in
set_option maxHeartbeats 4000000 in
theorem tb_M_sits2_65 (X : ev_X) (F : Nat) (d : Nat) (hd : 3 ≤ d + 1) (E : mx_E)  (l1 : Int32) (l2 : Int32) (l3 : Int32) (s0 : Int32) (D : mx_D) (v : Int32 × mx_D) (h : b_M_sits2_65 F l1 l2 l3 s0 D = some v) : ev X (d + 1) 300 (65, [some (.ref 116), some (.int l1), some (.int l2), some (.int l3), none], [.int s0], D, E) (qR (some (.int v.1)) v.2 E) := by
  have hq : kq_m 300 = some kq_q300 := rfl
  unfold b_M_sits2_65 at h
  refine gv_n hq 6 (S' := (72, [some (.ref 116), some (.int l1), some (.int l2), some (.int l3), some (.int s0)], [.int (-1 : Int32), .int l2, .int l2, .int l1, .ref 116], D, E)) rfl ?_
  refine gv_b hq rfl h 75 79 rfl rfl rfl (fun h => ?_) (fun h => ?_)
  · refine gv_n hq 2 (S' := (80, [some (.ref 116), some (.int l1), some (.int l2), some (.int l3), some (.int s0)], [.int (-1 : Int32), .int l2, .int l1, .ref 116], D, E)) rfl ?_
    obtain ⟨r2, h1, h⟩ := Option.bind_eq_some_iff.mp h
    refine gv_d hq rfl rfl rfl rfl rfl (gv_dd (by omega) (t_M_put X (d - 1) (by omega) E _ _ _ _ _ h1)) (S' := (83, [some (.ref 116), some (.int l1), some (.int l2), some (.int l3), some (.int s0)], [], r2, E)) rfl ?_
    refine gv_n hq 1 (S' := (85, [some (.ref 116), some (.int l1), some (.int l2), some (.int l3), some (.int s0)], [.int s0], r2, E)) rfl ?_
    cases h
    exact ev_ret hq rfl rfl ⟨rfl, rfl, rfl⟩
  · refine gv_n hq 1 (S' := (80, [some (.ref 116), some (.int l1), some (.int l2), some (.int l3), some (.int s0)], [.int l3, .int l2, .int l1, .ref 116], D, E)) rfl ?_
    obtain ⟨r3, h1, h⟩ := Option.bind_eq_some_iff.mp h
    refine gv_d hq rfl rfl rfl rfl rfl (gv_dd (by omega) (t_M_put X (d - 1) (by omega) E _ _ _ _ _ h1)) (S' := (83, [some (.ref 116), some (.int l1), some (.int l2), some (.int l3), some (.int s0)], [], r3, E)) rfl ?_
    refine gv_n hq 1 (S' := (85, [some (.ref 116), some (.int l1), some (.int l2), some (.int l3), some (.int s0)], [.int s0], r3, E)) rfl ?_
    cases h
    exact ev_ret hq rfl rfl ⟨rfl, rfl, rfl⟩
def b_M_sits2_37 (F : Nat) (l1 : Int32) (l2 : Int32) (l3 : Int32) (D : mx_D) : Option (Int32 × mx_D) := (Option.bind (g_M_sits D l1) (fun r1 => (if r1 = 0 then (b_M_sits2_65 F l1 l2 l3 (-1 : Int32) D) else (Option.bind (g_M_of D l1 (nI 3)) (fun r4 => (Option.bind (g_M_of D l1 (nI 4)) (fun r5 => (b_M_sits2_65 F l1 l2 l3 (((nI 100) * r4) + r5) D))))))))
set_option maxRecDepth 100000 in
set_option maxHeartbeats 4000000 in
theorem tb_M_sits2_37 (X : ev_X) (F : Nat) (d : Nat) (hd : 3 ≤ d + 1) (E : mx_E)  (l1 : Int32) (l2 : Int32) (l3 : Int32) (D : mx_D) (v : Int32 × mx_D) (h : b_M_sits2_37 F l1 l2 l3 D = some v) : ev X (d + 1) 300 (37, [some (.ref 116), some (.int l1), some (.int l2), some (.int l3), none], [], D, E) (qR (some (.int v.1)) v.2 E) := by
  have hq : kq_m 300 = some kq_q300 := rfl
  unfold b_M_sits2_37 at h
  refine gv_n hq 2 (S' := (39, [some (.ref 116), some (.int l1), some (.int l2), some (.int l3), none], [.int l1, .ref 116], D, E)) rfl ?_
  obtain ⟨r1, h1, h⟩ := Option.bind_eq_some_iff.mp h
  refine gv_d hq rfl rfl rfl rfl rfl (gv_dd (by omega) (t_M_sits X (d - 1) (by omega) D E _ _ h1)) (S' := (42, [some (.ref 116), some (.int l1), some (.int l2), some (.int l3), none], [.int r1], D, E)) rfl ?_
  refine gv_b hq rfl h 64 45 rfl rfl rfl (fun h => ?_) (fun h => ?_)
  · refine gv_n hq 1 (S' := (65, [some (.ref 116), some (.int l1), some (.int l2), some (.int l3), none], [.int (-1 : Int32)], D, E)) rfl ?_
    exact gv_w (tb_M_sits2_65 X F d hd E _ _ _ _ _ _ h) (And.intro rfl (And.intro rfl (And.intro rfl (And.intro rfl trivial))))
  · refine gv_n hq 4 (S' := (50, [some (.ref 116), some (.int l1), some (.int l2), some (.int l3), none], [.int (nI 3), .int l1, .ref 116, .int (nI 100)], D, E)) rfl ?_
    obtain ⟨r4, h1, h⟩ := Option.bind_eq_some_iff.mp h
    refine gv_d hq rfl rfl rfl rfl rfl ((t_M_of X d D E _ _ _ h1)) (S' := (53, [some (.ref 116), some (.int l1), some (.int l2), some (.int l3), none], [.int r4, .int (nI 100)], D, E)) rfl ?_
    refine gv_n hq 4 (S' := (57, [some (.ref 116), some (.int l1), some (.int l2), some (.int l3), none], [.int (nI 4), .int l1, .ref 116, .int ((nI 100) * r4)], D, E)) rfl ?_
    obtain ⟨r5, h1, h⟩ := Option.bind_eq_some_iff.mp h
    refine gv_d hq rfl rfl rfl rfl rfl ((t_M_of X d D E _ _ _ h1)) (S' := (60, [some (.ref 116), some (.int l1), some (.int l2), some (.int l3), none], [.int r5, .int ((nI 100) * r4)], D, E)) rfl ?_
    refine gv_n hq 2 (S' := (65, [some (.ref 116), some (.int l1), some (.int l2), some (.int l3), none], [.int (((nI 100) * r4) + r5)], D, E)) rfl ?_
    exact gv_w (tb_M_sits2_65 X F d hd E _ _ _ _ _ _ h) (And.intro rfl (And.intro rfl (And.intro rfl (And.intro rfl trivial))))
def g_M_sits2 (F : Nat) (a1 : Int32) (a2 : Int32) (a3 : Int32) (D : mx_D) : Option (Int32 × mx_D) := (if (g_M_isPerson D a1) = 0 then (some ((-2 : Int32), D)) else (if a2 = (-1 : Int32) then (b_M_sits2_37 F a1 a2 a3 D) else (if (g_M_isPlace D ((a2).toInt64) ((a3).toInt64)) = 0 then (some ((-2 : Int32), D)) else (Option.bind (g_M_sitterAt F D a2 a3) (fun r6 => (if r6 = (-1 : Int32) then (b_M_sits2_37 F a1 a2 a3 D) else (some ((-2 : Int32), D))))))))
set_option maxRecDepth 100000 in
set_option maxHeartbeats 4000000 in
theorem t_M_sits2 (X : ev_X) (F : Nat) (d : Nat) (hd : 3 ≤ d + 1) (E : mx_E) (a1 : Int32) (a2 : Int32) (a3 : Int32) (D : mx_D) (v : Int32 × mx_D) (h : g_M_sits2 F a1 a2 a3 D = some v) : ev X (d + 1) 300 (0, [some (.ref 116), some (.int a1), some (.int a2), some (.int a3), none], [], D, E) (qR (some (.int v.1)) v.2 E) := by
  have hq : kq_m 300 = some kq_q300 := rfl
  unfold g_M_sits2 at h
  refine gv_n hq 2 (S' := (2, [some (.ref 116), some (.int a1), some (.int a2), some (.int a3), none], [.int a1, .ref 116], D, E)) rfl ?_
  refine gv_d hq rfl rfl rfl rfl rfl (gv_dd (by omega) (t_M_isPerson X (d - 1) (by omega) D E _ _ rfl)) (S' := (5, [some (.ref 116), some (.int a1), some (.int a2), some (.int a3), none], [.int (g_M_isPerson D a1)], D, E)) rfl ?_
  refine gv_b hq rfl h 34 8 rfl rfl rfl (fun h => ?_) (fun h => ?_)
  · refine gv_n hq 1 (S' := (36, [some (.ref 116), some (.int a1), some (.int a2), some (.int a3), none], [.int (-2 : Int32)], D, E)) rfl ?_
    cases h
    exact ev_ret hq rfl rfl ⟨rfl, rfl, rfl⟩
  · refine gv_n hq 2 (S' := (10, [some (.ref 116), some (.int a1), some (.int a2), some (.int a3), none], [.int (-1 : Int32), .int a2], D, E)) rfl ?_
    refine gv_b hq rfl h 37 13 rfl rfl rfl (fun h => ?_) (fun h => ?_)
    · exact gv_w (tb_M_sits2_37 X F d hd E _ _ _ _ _ h) (And.intro rfl (And.intro rfl (And.intro rfl (And.intro rfl trivial))))
    · refine gv_n hq 5 (S' := (18, [some (.ref 116), some (.int a1), some (.int a2), some (.int a3), none], [.long ((a3).toInt64), .long ((a2).toInt64), .ref 116], D, E)) rfl ?_
      refine gv_d hq rfl rfl rfl rfl rfl (gv_dd (by omega) (t_M_isPlace X (d - 1) (by omega) D E _ _ _ rfl)) (S' := (21, [some (.ref 116), some (.int a1), some (.int a2), some (.int a3), none], [.int (g_M_isPlace D ((a2).toInt64) ((a3).toInt64))], D, E)) rfl ?_
      refine gv_b hq rfl h 34 24 rfl rfl rfl (fun h => ?_) (fun h => ?_)
      · refine gv_n hq 1 (S' := (36, [some (.ref 116), some (.int a1), some (.int a2), some (.int a3), none], [.int (-2 : Int32)], D, E)) rfl ?_
        cases h
        exact ev_ret hq rfl rfl ⟨rfl, rfl, rfl⟩
      · refine gv_n hq 3 (S' := (27, [some (.ref 116), some (.int a1), some (.int a2), some (.int a3), none], [.int a3, .int a2, .ref 116], D, E)) rfl ?_
        obtain ⟨r6, h1, h⟩ := Option.bind_eq_some_iff.mp h
        refine gv_d hq rfl rfl rfl rfl rfl (gv_dd (by omega) (t_M_sitterAt X F (d - 1) (by omega) D E _ _ _ h1)) (S' := (30, [some (.ref 116), some (.int a1), some (.int a2), some (.int a3), none], [.int r6], D, E)) rfl ?_
        refine gv_n hq 1 (S' := (31, [some (.ref 116), some (.int a1), some (.int a2), some (.int a3), none], [.int (-1 : Int32), .int r6], D, E)) rfl ?_
        refine gv_b hq rfl h 37 34 rfl rfl rfl (fun h => ?_) (fun h => ?_)
        · exact gv_w (tb_M_sits2_37 X F d hd E _ _ _ _ _ h) (And.intro rfl (And.intro rfl (And.intro rfl (And.intro rfl trivial))))
        · refine gv_n hq 1 (S' := (36, [some (.ref 116), some (.int a1), some (.int a2), some (.int a3), none], [.int (-2 : Int32)], D, E)) rfl ?_
          cases h
          exact ev_ret hq rfl rfl ⟨rfl, rfl, rfl⟩
def g_X_change (a1 : Int32) (a2 : Int32) (D : mx_D) : Option (Int32 × mx_D) := (if a1 = a2 then (some ((-2 : Int32), D)) else (Option.bind (g_Church_isSeated D a1) (fun r1 => (if r1 = 0 then (some ((-2 : Int32), D)) else (Option.bind (g_Church_isSeated D a2) (fun r2 => (if r2 = 0 then (some ((-2 : Int32), D)) else (rk 8 a1 (rk 8 a1 (rk 8 a2 (rk 8 a1 (rk 8 a2 (rk 8 a1 (rk 8 a2 (rk 8 a2 (some ((nI 0), (sD (sD (sD (sD D 28 (a1).toNatClampNeg (D 28 (a2).toNatClampNeg)) 29 (a1).toNatClampNeg ((sD D 28 (a1).toNatClampNeg (D 28 (a2).toNatClampNeg)) 29 (a2).toNatClampNeg)) 28 (a2).toNatClampNeg (D 28 (a1).toNatClampNeg)) 29 (a2).toNatClampNeg (D 29 (a1).toNatClampNeg)))))))))))))))))))
set_option maxRecDepth 100000 in
set_option maxHeartbeats 4000000 in
theorem t_X_change (X : ev_X) (d : Nat) (hd : 2 ≤ d + 1) (E : mx_E) (a1 : Int32) (a2 : Int32) (D : mx_D) (v : Int32 × mx_D) (h : g_X_change a1 a2 D = some v) : ev X (d + 1) 159 (0, [some (.ref 0), some (.int a1), some (.int a2), none, none, none], [], D, E) (qR (some (.int v.1)) v.2 E) := by
  have hq : kq_m 159 = some kq_q159 := rfl
  unfold g_X_change at h
  refine gv_n hq 2 (S' := (2, [some (.ref 0), some (.int a1), some (.int a2), none, none, none], [.int a2, .int a1], D, E)) rfl ?_
  refine gv_b hq rfl h 27 5 rfl rfl rfl (fun h => ?_) (fun h => ?_)
  · refine gv_n hq 1 (S' := (29, [some (.ref 0), some (.int a1), some (.int a2), none, none, none], [.int (-2 : Int32)], D, E)) rfl ?_
    cases h
    exact ev_ret hq rfl rfl ⟨rfl, rfl, rfl⟩
  · refine gv_n hq 3 (S' := (10, [some (.ref 0), some (.int a1), some (.int a2), none, none, none], [.int a1, .ref 19], D, E)) rfl ?_
    obtain ⟨r1, h1, h⟩ := Option.bind_eq_some_iff.mp h
    refine gv_d hq rfl rfl rfl rfl rfl (gv_dd (by omega) (t_Church_isSeated X (d - 1) (by omega) D E _ _ h1)) (S' := (13, [some (.ref 0), some (.int a1), some (.int a2), none, none, none], [.int r1], D, E)) rfl ?_
    refine gv_b hq rfl h 27 16 rfl rfl rfl (fun h => ?_) (fun h => ?_)
    · refine gv_n hq 1 (S' := (29, [some (.ref 0), some (.int a1), some (.int a2), none, none, none], [.int (-2 : Int32)], D, E)) rfl ?_
      cases h
      exact ev_ret hq rfl rfl ⟨rfl, rfl, rfl⟩
    · refine gv_n hq 3 (S' := (21, [some (.ref 0), some (.int a1), some (.int a2), none, none, none], [.int a2, .ref 19], D, E)) rfl ?_
      obtain ⟨r2, h1, h⟩ := Option.bind_eq_some_iff.mp h
      refine gv_d hq rfl rfl rfl rfl rfl (gv_dd (by omega) (t_Church_isSeated X (d - 1) (by omega) D E _ _ h1)) (S' := (24, [some (.ref 0), some (.int a1), some (.int a2), none, none, none], [.int r2], D, E)) rfl ?_
      refine gv_b hq rfl h 27 30 rfl rfl rfl (fun h => ?_) (fun h => ?_)
      · refine gv_n hq 1 (S' := (29, [some (.ref 0), some (.int a1), some (.int a2), none, none, none], [.int (-2 : Int32)], D, E)) rfl ?_
        cases h
        exact ev_ret hq rfl rfl ⟨rfl, rfl, rfl⟩
      · refine gv_n hq 7 (S' := (43, [some (.ref 0), some (.int a1), some (.int a2), some (.ref 24), none, none], [.int a1, .ref 28], D, E)) rfl ?_
        refine gv_ia hq rfl rfl rfl h 44 rfl (fun h => ?_)
        refine gv_n hq 4 (S' := (51, [some (.ref 0), some (.int a1), some (.int a2), some (.ref 24), some (.int (D 28 (a1).toNatClampNeg)), none], [.int a1, .ref 29], D, E)) rfl ?_
        refine gv_ia hq rfl rfl rfl h 52 rfl (fun h => ?_)
        refine gv_n hq 7 (S' := (64, [some (.ref 0), some (.int a1), some (.int a2), some (.ref 24), some (.int (D 28 (a1).toNatClampNeg)), some (.int (D 29 (a1).toNatClampNeg))], [.int a2, .ref 28, .int a1, .ref 28], D, E)) rfl ?_
        refine gv_ia hq rfl rfl rfl h 65 rfl (fun h => ?_)
        refine gv_is hq rfl rfl h 66 rfl (fun h => ?_)
        refine gv_n hq 6 (S' := (76, [some (.ref 0), some (.int a1), some (.int a2), some (.ref 24), some (.int (D 28 (a1).toNatClampNeg)), some (.int (D 29 (a1).toNatClampNeg))], [.int a2, .ref 29, .int a1, .ref 29], (sD D 28 (a1).toNatClampNeg (D 28 (a2).toNatClampNeg)), E)) rfl ?_
        refine gv_ia hq rfl rfl rfl h 77 rfl (fun h => ?_)
        refine gv_is hq rfl rfl h 78 rfl (fun h => ?_)
        refine gv_n hq 4 (S' := (85, [some (.ref 0), some (.int a1), some (.int a2), some (.ref 24), some (.int (D 28 (a1).toNatClampNeg)), some (.int (D 29 (a1).toNatClampNeg))], [.int (D 28 (a1).toNatClampNeg), .int a2, .ref 28], (sD (sD D 28 (a1).toNatClampNeg (D 28 (a2).toNatClampNeg)) 29 (a1).toNatClampNeg ((sD D 28 (a1).toNatClampNeg (D 28 (a2).toNatClampNeg)) 29 (a2).toNatClampNeg)), E)) rfl ?_
        refine gv_is hq rfl rfl h 86 rfl (fun h => ?_)
        refine gv_n hq 4 (S' := (93, [some (.ref 0), some (.int a1), some (.int a2), some (.ref 24), some (.int (D 28 (a1).toNatClampNeg)), some (.int (D 29 (a1).toNatClampNeg))], [.int (D 29 (a1).toNatClampNeg), .int a2, .ref 29], (sD (sD (sD D 28 (a1).toNatClampNeg (D 28 (a2).toNatClampNeg)) 29 (a1).toNatClampNeg ((sD D 28 (a1).toNatClampNeg (D 28 (a2).toNatClampNeg)) 29 (a2).toNatClampNeg)) 28 (a2).toNatClampNeg (D 28 (a1).toNatClampNeg)), E)) rfl ?_
        refine gv_is hq rfl rfl h 94 rfl (fun h => ?_)
        refine gv_n hq 1 (S' := (95, [some (.ref 0), some (.int a1), some (.int a2), some (.ref 24), some (.int (D 28 (a1).toNatClampNeg)), some (.int (D 29 (a1).toNatClampNeg))], [.int (nI 0)], (sD (sD (sD (sD D 28 (a1).toNatClampNeg (D 28 (a2).toNatClampNeg)) 29 (a1).toNatClampNeg ((sD D 28 (a1).toNatClampNeg (D 28 (a2).toNatClampNeg)) 29 (a2).toNatClampNeg)) 28 (a2).toNatClampNeg (D 28 (a1).toNatClampNeg)) 29 (a2).toNatClampNeg (D 29 (a1).toNatClampNeg)), E)) rfl ?_
        cases h
        exact ev_ret hq rfl rfl ⟨rfl, rfl, rfl⟩
def g_M_areTwo (D : mx_D) (a1 : Int32) (a2 : Int32) : Option (Int32) := (if (g_M_isPerson D a1) = 0 then (some (nI 0)) else (if (g_M_isPerson D a2) = 0 then (some (nI 0)) else (if a1 = a2 then (some (nI 0)) else (Option.bind (g_M_sits D a1) (fun r1 => (if r1 = 0 then (some (nI 0)) else (Option.bind (g_M_sits D a2) (fun r2 => (if r2 = 0 then (some (nI 0)) else (some (nI 1)))))))))))
set_option maxRecDepth 100000 in
set_option maxHeartbeats 4000000 in
theorem t_M_areTwo (X : ev_X) (d : Nat) (hd : 2 ≤ d + 1) (D : mx_D) (E : mx_E) (a1 : Int32) (a2 : Int32) (v : Int32) (h : g_M_areTwo D a1 a2 = some v) : ev X (d + 1) 302 (0, [some (.ref 116), some (.int a1), some (.int a2)], [], D, E) (qR (some (.int v)) D E) := by
  have hq : kq_m 302 = some kq_q302 := rfl
  unfold g_M_areTwo at h
  refine gv_n hq 2 (S' := (2, [some (.ref 116), some (.int a1), some (.int a2)], [.int a1, .ref 116], D, E)) rfl ?_
  refine gv_d hq rfl rfl rfl rfl rfl (gv_dd (by omega) (t_M_isPerson X (d - 1) (by omega) D E _ _ rfl)) (S' := (5, [some (.ref 116), some (.int a1), some (.int a2)], [.int (g_M_isPerson D a1)], D, E)) rfl ?_
  refine gv_b hq rfl h 41 8 rfl rfl rfl (fun h => ?_) (fun h => ?_)
  · refine gv_n hq 1 (S' := (42, [some (.ref 116), some (.int a1), some (.int a2)], [.int (nI 0)], D, E)) rfl ?_
    cases h
    exact ev_ret hq rfl rfl ⟨rfl, rfl, rfl⟩
  · refine gv_n hq 2 (S' := (10, [some (.ref 116), some (.int a1), some (.int a2)], [.int a2, .ref 116], D, E)) rfl ?_
    refine gv_d hq rfl rfl rfl rfl rfl (gv_dd (by omega) (t_M_isPerson X (d - 1) (by omega) D E _ _ rfl)) (S' := (13, [some (.ref 116), some (.int a1), some (.int a2)], [.int (g_M_isPerson D a2)], D, E)) rfl ?_
    refine gv_b hq rfl h 41 16 rfl rfl rfl (fun h => ?_) (fun h => ?_)
    · refine gv_n hq 1 (S' := (42, [some (.ref 116), some (.int a1), some (.int a2)], [.int (nI 0)], D, E)) rfl ?_
      cases h
      exact ev_ret hq rfl rfl ⟨rfl, rfl, rfl⟩
    · refine gv_n hq 2 (S' := (18, [some (.ref 116), some (.int a1), some (.int a2)], [.int a2, .int a1], D, E)) rfl ?_
      refine gv_b hq rfl h 41 21 rfl rfl rfl (fun h => ?_) (fun h => ?_)
      · refine gv_n hq 1 (S' := (42, [some (.ref 116), some (.int a1), some (.int a2)], [.int (nI 0)], D, E)) rfl ?_
        cases h
        exact ev_ret hq rfl rfl ⟨rfl, rfl, rfl⟩
      · refine gv_n hq 2 (S' := (23, [some (.ref 116), some (.int a1), some (.int a2)], [.int a1, .ref 116], D, E)) rfl ?_
        obtain ⟨r1, h1, h⟩ := Option.bind_eq_some_iff.mp h
        refine gv_d hq rfl rfl rfl rfl rfl (gv_dd (by omega) (t_M_sits X (d - 1) (by omega) D E _ _ h1)) (S' := (26, [some (.ref 116), some (.int a1), some (.int a2)], [.int r1], D, E)) rfl ?_
        refine gv_b hq rfl h 41 29 rfl rfl rfl (fun h => ?_) (fun h => ?_)
        · refine gv_n hq 1 (S' := (42, [some (.ref 116), some (.int a1), some (.int a2)], [.int (nI 0)], D, E)) rfl ?_
          cases h
          exact ev_ret hq rfl rfl ⟨rfl, rfl, rfl⟩
        · refine gv_n hq 2 (S' := (31, [some (.ref 116), some (.int a1), some (.int a2)], [.int a2, .ref 116], D, E)) rfl ?_
          obtain ⟨r2, h1, h⟩ := Option.bind_eq_some_iff.mp h
          refine gv_d hq rfl rfl rfl rfl rfl (gv_dd (by omega) (t_M_sits X (d - 1) (by omega) D E _ _ h1)) (S' := (34, [some (.ref 116), some (.int a1), some (.int a2)], [.int r2], D, E)) rfl ?_
          refine gv_b hq rfl h 41 37 rfl rfl rfl (fun h => ?_) (fun h => ?_)
          · refine gv_n hq 1 (S' := (42, [some (.ref 116), some (.int a1), some (.int a2)], [.int (nI 0)], D, E)) rfl ?_
            cases h
            exact ev_ret hq rfl rfl ⟨rfl, rfl, rfl⟩
          · refine gv_n hq 2 (S' := (42, [some (.ref 116), some (.int a1), some (.int a2)], [.int (nI 1)], D, E)) rfl ?_
            cases h
            exact ev_ret hq rfl rfl ⟨rfl, rfl, rfl⟩
def g_M_trade (a1 : Int32) (a2 : Int32) (D : mx_D) : Option (mx_D) := (Option.bind (g_M_of D a1 (nI 3)) (fun r1 => (Option.bind (g_M_of D a1 (nI 4)) (fun r2 => (Option.bind (g_M_of D a2 (nI 3)) (fun r3 => (Option.bind (g_M_of D a2 (nI 4)) (fun r4 => (Option.bind (g_M_put a1 r3 r4 D) (fun r5 => (Option.bind (g_M_put a2 r1 r2 r5) (fun r6 => (some r6)))))))))))))
set_option maxRecDepth 100000 in
set_option maxHeartbeats 4000000 in
theorem t_M_trade (X : ev_X) (d : Nat) (hd : 2 ≤ d + 1) (E : mx_E) (a1 : Int32) (a2 : Int32) (D : mx_D) (v : mx_D) (h : g_M_trade a1 a2 D = some v) : ev X (d + 1) 303 (0, [some (.ref 116), some (.int a1), some (.int a2), none, none], [], D, E) (qR none v E) := by
  have hq : kq_m 303 = some kq_q303 := rfl
  unfold g_M_trade at h
  refine gv_n hq 3 (S' := (3, [some (.ref 116), some (.int a1), some (.int a2), none, none], [.int (nI 3), .int a1, .ref 116], D, E)) rfl ?_
  obtain ⟨r1, h1, h⟩ := Option.bind_eq_some_iff.mp h
  refine gv_d hq rfl rfl rfl rfl rfl ((t_M_of X d D E _ _ _ h1)) (S' := (6, [some (.ref 116), some (.int a1), some (.int a2), none, none], [.int r1], D, E)) rfl ?_
  refine gv_n hq 4 (S' := (10, [some (.ref 116), some (.int a1), some (.int a2), some (.int r1), none], [.int (nI 4), .int a1, .ref 116], D, E)) rfl ?_
  obtain ⟨r2, h1, h⟩ := Option.bind_eq_some_iff.mp h
  refine gv_d hq rfl rfl rfl rfl rfl ((t_M_of X d D E _ _ _ h1)) (S' := (13, [some (.ref 116), some (.int a1), some (.int a2), some (.int r1), none], [.int r2], D, E)) rfl ?_
  refine gv_n hq 6 (S' := (20, [some (.ref 116), some (.int a1), some (.int a2), some (.int r1), some (.int r2)], [.int (nI 3), .int a2, .ref 116, .int a1, .ref 116], D, E)) rfl ?_
  obtain ⟨r3, h1, h⟩ := Option.bind_eq_some_iff.mp h
  refine gv_d hq rfl rfl rfl rfl rfl ((t_M_of X d D E _ _ _ h1)) (S' := (23, [some (.ref 116), some (.int a1), some (.int a2), some (.int r1), some (.int r2)], [.int r3, .int a1, .ref 116], D, E)) rfl ?_
  refine gv_n hq 3 (S' := (26, [some (.ref 116), some (.int a1), some (.int a2), some (.int r1), some (.int r2)], [.int (nI 4), .int a2, .ref 116, .int r3, .int a1, .ref 116], D, E)) rfl ?_
  obtain ⟨r4, h1, h⟩ := Option.bind_eq_some_iff.mp h
  refine gv_d hq rfl rfl rfl rfl rfl ((t_M_of X d D E _ _ _ h1)) (S' := (29, [some (.ref 116), some (.int a1), some (.int a2), some (.int r1), some (.int r2)], [.int r4, .int r3, .int a1, .ref 116], D, E)) rfl ?_
  obtain ⟨r5, h1, h⟩ := Option.bind_eq_some_iff.mp h
  refine gv_d hq rfl rfl rfl rfl rfl (gv_dd (by omega) (t_M_put X (d - 1) (by omega) E _ _ _ _ _ h1)) (S' := (32, [some (.ref 116), some (.int a1), some (.int a2), some (.int r1), some (.int r2)], [], r5, E)) rfl ?_
  refine gv_n hq 4 (S' := (37, [some (.ref 116), some (.int a1), some (.int a2), some (.int r1), some (.int r2)], [.int r2, .int r1, .int a2, .ref 116], r5, E)) rfl ?_
  obtain ⟨r6, h1, h⟩ := Option.bind_eq_some_iff.mp h
  refine gv_d hq rfl rfl rfl rfl rfl (gv_dd (by omega) (t_M_put X (d - 1) (by omega) E _ _ _ _ _ h1)) (S' := (40, [some (.ref 116), some (.int a1), some (.int a2), some (.int r1), some (.int r2)], [], r6, E)) rfl ?_
  cases h
  exact ev_ret hq rfl rfl ⟨rfl, rfl, rfl⟩
def g_M_change (a1 : Int32) (a2 : Int32) (D : mx_D) : Option (Int32 × mx_D) := (Option.bind (g_M_areTwo D a1 a2) (fun r1 => (if r1 = 0 then (some ((-2 : Int32), D)) else (Option.bind (g_M_trade a1 a2 D) (fun r2 => (some ((nI 0), r2)))))))
set_option maxRecDepth 100000 in
set_option maxHeartbeats 4000000 in
theorem t_M_change (X : ev_X) (d : Nat) (hd : 3 ≤ d + 1) (E : mx_E) (a1 : Int32) (a2 : Int32) (D : mx_D) (v : Int32 × mx_D) (h : g_M_change a1 a2 D = some v) : ev X (d + 1) 301 (0, [some (.ref 116), some (.int a1), some (.int a2)], [], D, E) (qR (some (.int v.1)) v.2 E) := by
  have hq : kq_m 301 = some kq_q301 := rfl
  unfold g_M_change at h
  refine gv_n hq 3 (S' := (3, [some (.ref 116), some (.int a1), some (.int a2)], [.int a2, .int a1, .ref 116], D, E)) rfl ?_
  obtain ⟨r1, h1, h⟩ := Option.bind_eq_some_iff.mp h
  refine gv_d hq rfl rfl rfl rfl rfl (gv_dd (by omega) (t_M_areTwo X (d - 1) (by omega) D E _ _ _ h1)) (S' := (6, [some (.ref 116), some (.int a1), some (.int a2)], [.int r1], D, E)) rfl ?_
  refine gv_b hq rfl h 9 12 rfl rfl rfl (fun h => ?_) (fun h => ?_)
  · refine gv_n hq 1 (S' := (11, [some (.ref 116), some (.int a1), some (.int a2)], [.int (-2 : Int32)], D, E)) rfl ?_
    cases h
    exact ev_ret hq rfl rfl ⟨rfl, rfl, rfl⟩
  · refine gv_n hq 3 (S' := (15, [some (.ref 116), some (.int a1), some (.int a2)], [.int a2, .int a1, .ref 116], D, E)) rfl ?_
    obtain ⟨r2, h1, h⟩ := Option.bind_eq_some_iff.mp h
    refine gv_d hq rfl rfl rfl rfl rfl (gv_dd (by omega) (t_M_trade X (d - 1) (by omega) E _ _ _ _ h1)) (S' := (18, [some (.ref 116), some (.int a1), some (.int a2)], [], r2, E)) rfl ?_
    refine gv_n hq 1 (S' := (19, [some (.ref 116), some (.int a1), some (.int a2)], [.int (nI 0)], r2, E)) rfl ?_
    cases h
    exact ev_ret hq rfl rfl ⟨rfl, rfl, rfl⟩
def g_X_spreadIfChanged (F : Nat) (a1 : Int32) (a2 : Int32) (D : mx_D) : Option (Int32 × mx_D) := (Option.bind (g_Church_floorUnder D a2) (fun r1 => (Option.bind (g_Church_floorUnder D a1) (fun r2 => (rk 8 a1 (rk 8 a1 (rk 8 a2 (rk 8 a2 (Option.bind (g_Heights_spreadOf F (sD (sD D 35 (a1).toNatClampNeg ((D 35 (a1).toNatClampNeg) + (r1 - r2))) 35 (a2).toNatClampNeg (((sD D 35 (a1).toNatClampNeg ((D 35 (a1).toNatClampNeg) + (r1 - r2))) 35 (a2).toNatClampNeg) - (r1 - r2))) ((sD (sD D 35 (a1).toNatClampNeg ((D 35 (a1).toNatClampNeg) + (r1 - r2))) 35 (a2).toNatClampNeg (((sD D 35 (a1).toNatClampNeg ((D 35 (a1).toNatClampNeg) + (r1 - r2))) 35 (a2).toNatClampNeg) - (r1 - r2))) 34 2)) (fun r3 => (rk 8 a1 (rk 8 a1 (rk 8 a2 (rk 8 a2 (some (r3, (sD (sD (sD (sD D 35 (a1).toNatClampNeg ((D 35 (a1).toNatClampNeg) + (r1 - r2))) 35 (a2).toNatClampNeg (((sD D 35 (a1).toNatClampNeg ((D 35 (a1).toNatClampNeg) + (r1 - r2))) 35 (a2).toNatClampNeg) - (r1 - r2))) 35 (a1).toNatClampNeg (((sD (sD D 35 (a1).toNatClampNeg ((D 35 (a1).toNatClampNeg) + (r1 - r2))) 35 (a2).toNatClampNeg (((sD D 35 (a1).toNatClampNeg ((D 35 (a1).toNatClampNeg) + (r1 - r2))) 35 (a2).toNatClampNeg) - (r1 - r2))) 35 (a1).toNatClampNeg) - (r1 - r2))) 35 (a2).toNatClampNeg (((sD (sD (sD D 35 (a1).toNatClampNeg ((D 35 (a1).toNatClampNeg) + (r1 - r2))) 35 (a2).toNatClampNeg (((sD D 35 (a1).toNatClampNeg ((D 35 (a1).toNatClampNeg) + (r1 - r2))) 35 (a2).toNatClampNeg) - (r1 - r2))) 35 (a1).toNatClampNeg (((sD (sD D 35 (a1).toNatClampNeg ((D 35 (a1).toNatClampNeg) + (r1 - r2))) 35 (a2).toNatClampNeg (((sD D 35 (a1).toNatClampNeg ((D 35 (a1).toNatClampNeg) + (r1 - r2))) 35 (a2).toNatClampNeg) - (r1 - r2))) 35 (a1).toNatClampNeg) - (r1 - r2))) 35 (a2).toNatClampNeg) + (r1 - r2)))))))))))))))))))
set_option maxRecDepth 100000 in
set_option maxHeartbeats 4000000 in
theorem t_X_spreadIfChanged (X : ev_X) (F : Nat) (d : Nat) (hd : 3 ≤ d + 1) (E : mx_E) (a1 : Int32) (a2 : Int32) (D : mx_D) (v : Int32 × mx_D) (h : g_X_spreadIfChanged F a1 a2 D = some v) : ev X (d + 1) 161 (0, [some (.ref 0), some (.int a1), some (.int a2), none, none], [], D, E) (qR (some (.int v.1)) v.2 E) := by
  have hq : kq_m 161 = some kq_q161 := rfl
  unfold g_X_spreadIfChanged at h
  refine gv_n hq 3 (S' := (5, [some (.ref 0), some (.int a1), some (.int a2), none, none], [.int a2, .ref 19], D, E)) rfl ?_
  obtain ⟨r1, h1, h⟩ := Option.bind_eq_some_iff.mp h
  refine gv_d hq rfl rfl rfl rfl rfl (gv_dd (by omega) (t_Church_floorUnder X (d - 1) (by omega) D E _ _ h1)) (S' := (8, [some (.ref 0), some (.int a1), some (.int a2), none, none], [.int r1], D, E)) rfl ?_
  refine gv_n hq 3 (S' := (13, [some (.ref 0), some (.int a1), some (.int a2), none, none], [.int a1, .ref 19, .int r1], D, E)) rfl ?_
  obtain ⟨r2, h1, h⟩ := Option.bind_eq_some_iff.mp h
  refine gv_d hq rfl rfl rfl rfl rfl (gv_dd (by omega) (t_Church_floorUnder X (d - 1) (by omega) D E _ _ h1)) (S' := (16, [some (.ref 0), some (.int a1), some (.int a2), none, none], [.int r2, .int r1], D, E)) rfl ?_
  refine gv_n hq 7 (S' := (27, [some (.ref 0), some (.int a1), some (.int a2), some (.int (r1 - r2)), none], [.int a1, .ref 35, .int a1, .ref 35], D, E)) rfl ?_
  refine gv_ia hq rfl rfl rfl h 28 rfl (fun h => ?_)
  refine gv_n hq 2 (S' := (30, [some (.ref 0), some (.int a1), some (.int a2), some (.int (r1 - r2)), none], [.int ((D 35 (a1).toNatClampNeg) + (r1 - r2)), .int a1, .ref 35], D, E)) rfl ?_
  refine gv_is hq rfl rfl h 31 rfl (fun h => ?_)
  refine gv_n hq 5 (S' := (40, [some (.ref 0), some (.int a1), some (.int a2), some (.int (r1 - r2)), none], [.int a2, .ref 35, .int a2, .ref 35], (sD D 35 (a1).toNatClampNeg ((D 35 (a1).toNatClampNeg) + (r1 - r2))), E)) rfl ?_
  refine gv_ia hq rfl rfl rfl h 41 rfl (fun h => ?_)
  refine gv_n hq 2 (S' := (43, [some (.ref 0), some (.int a1), some (.int a2), some (.int (r1 - r2)), none], [.int (((sD D 35 (a1).toNatClampNeg ((D 35 (a1).toNatClampNeg) + (r1 - r2))) 35 (a2).toNatClampNeg) - (r1 - r2)), .int a2, .ref 35], (sD D 35 (a1).toNatClampNeg ((D 35 (a1).toNatClampNeg) + (r1 - r2))), E)) rfl ?_
  refine gv_is hq rfl rfl h 44 rfl (fun h => ?_)
  refine gv_n hq 5 (S' := (55, [some (.ref 0), some (.int a1), some (.int a2), some (.int (r1 - r2)), none], [.int ((sD (sD D 35 (a1).toNatClampNeg ((D 35 (a1).toNatClampNeg) + (r1 - r2))) 35 (a2).toNatClampNeg (((sD D 35 (a1).toNatClampNeg ((D 35 (a1).toNatClampNeg) + (r1 - r2))) 35 (a2).toNatClampNeg) - (r1 - r2))) 34 2), .ref 34], (sD (sD D 35 (a1).toNatClampNeg ((D 35 (a1).toNatClampNeg) + (r1 - r2))) 35 (a2).toNatClampNeg (((sD D 35 (a1).toNatClampNeg ((D 35 (a1).toNatClampNeg) + (r1 - r2))) 35 (a2).toNatClampNeg) - (r1 - r2))), E)) rfl ?_
  obtain ⟨r3, h1, h⟩ := Option.bind_eq_some_iff.mp h
  refine gv_d hq rfl rfl rfl rfl rfl (gv_dd (by omega) (t_Heights_spreadOf X F (d - 1) (by omega) (sD (sD D 35 (a1).toNatClampNeg ((D 35 (a1).toNatClampNeg) + (r1 - r2))) 35 (a2).toNatClampNeg (((sD D 35 (a1).toNatClampNeg ((D 35 (a1).toNatClampNeg) + (r1 - r2))) 35 (a2).toNatClampNeg) - (r1 - r2))) E _ _ h1)) (S' := (58, [some (.ref 0), some (.int a1), some (.int a2), some (.int (r1 - r2)), none], [.int r3], (sD (sD D 35 (a1).toNatClampNeg ((D 35 (a1).toNatClampNeg) + (r1 - r2))) 35 (a2).toNatClampNeg (((sD D 35 (a1).toNatClampNeg ((D 35 (a1).toNatClampNeg) + (r1 - r2))) 35 (a2).toNatClampNeg) - (r1 - r2))), E)) rfl ?_
  refine gv_n hq 6 (S' := (69, [some (.ref 0), some (.int a1), some (.int a2), some (.int (r1 - r2)), some (.int r3)], [.int a1, .ref 35, .int a1, .ref 35], (sD (sD D 35 (a1).toNatClampNeg ((D 35 (a1).toNatClampNeg) + (r1 - r2))) 35 (a2).toNatClampNeg (((sD D 35 (a1).toNatClampNeg ((D 35 (a1).toNatClampNeg) + (r1 - r2))) 35 (a2).toNatClampNeg) - (r1 - r2))), E)) rfl ?_
  refine gv_ia hq rfl rfl rfl h 70 rfl (fun h => ?_)
  refine gv_n hq 2 (S' := (72, [some (.ref 0), some (.int a1), some (.int a2), some (.int (r1 - r2)), some (.int r3)], [.int (((sD (sD D 35 (a1).toNatClampNeg ((D 35 (a1).toNatClampNeg) + (r1 - r2))) 35 (a2).toNatClampNeg (((sD D 35 (a1).toNatClampNeg ((D 35 (a1).toNatClampNeg) + (r1 - r2))) 35 (a2).toNatClampNeg) - (r1 - r2))) 35 (a1).toNatClampNeg) - (r1 - r2)), .int a1, .ref 35], (sD (sD D 35 (a1).toNatClampNeg ((D 35 (a1).toNatClampNeg) + (r1 - r2))) 35 (a2).toNatClampNeg (((sD D 35 (a1).toNatClampNeg ((D 35 (a1).toNatClampNeg) + (r1 - r2))) 35 (a2).toNatClampNeg) - (r1 - r2))), E)) rfl ?_
  refine gv_is hq rfl rfl h 73 rfl (fun h => ?_)
  refine gv_n hq 5 (S' := (82, [some (.ref 0), some (.int a1), some (.int a2), some (.int (r1 - r2)), some (.int r3)], [.int a2, .ref 35, .int a2, .ref 35], (sD (sD (sD D 35 (a1).toNatClampNeg ((D 35 (a1).toNatClampNeg) + (r1 - r2))) 35 (a2).toNatClampNeg (((sD D 35 (a1).toNatClampNeg ((D 35 (a1).toNatClampNeg) + (r1 - r2))) 35 (a2).toNatClampNeg) - (r1 - r2))) 35 (a1).toNatClampNeg (((sD (sD D 35 (a1).toNatClampNeg ((D 35 (a1).toNatClampNeg) + (r1 - r2))) 35 (a2).toNatClampNeg (((sD D 35 (a1).toNatClampNeg ((D 35 (a1).toNatClampNeg) + (r1 - r2))) 35 (a2).toNatClampNeg) - (r1 - r2))) 35 (a1).toNatClampNeg) - (r1 - r2))), E)) rfl ?_
  refine gv_ia hq rfl rfl rfl h 83 rfl (fun h => ?_)
  refine gv_n hq 2 (S' := (85, [some (.ref 0), some (.int a1), some (.int a2), some (.int (r1 - r2)), some (.int r3)], [.int (((sD (sD (sD D 35 (a1).toNatClampNeg ((D 35 (a1).toNatClampNeg) + (r1 - r2))) 35 (a2).toNatClampNeg (((sD D 35 (a1).toNatClampNeg ((D 35 (a1).toNatClampNeg) + (r1 - r2))) 35 (a2).toNatClampNeg) - (r1 - r2))) 35 (a1).toNatClampNeg (((sD (sD D 35 (a1).toNatClampNeg ((D 35 (a1).toNatClampNeg) + (r1 - r2))) 35 (a2).toNatClampNeg (((sD D 35 (a1).toNatClampNeg ((D 35 (a1).toNatClampNeg) + (r1 - r2))) 35 (a2).toNatClampNeg) - (r1 - r2))) 35 (a1).toNatClampNeg) - (r1 - r2))) 35 (a2).toNatClampNeg) + (r1 - r2)), .int a2, .ref 35], (sD (sD (sD D 35 (a1).toNatClampNeg ((D 35 (a1).toNatClampNeg) + (r1 - r2))) 35 (a2).toNatClampNeg (((sD D 35 (a1).toNatClampNeg ((D 35 (a1).toNatClampNeg) + (r1 - r2))) 35 (a2).toNatClampNeg) - (r1 - r2))) 35 (a1).toNatClampNeg (((sD (sD D 35 (a1).toNatClampNeg ((D 35 (a1).toNatClampNeg) + (r1 - r2))) 35 (a2).toNatClampNeg (((sD D 35 (a1).toNatClampNeg ((D 35 (a1).toNatClampNeg) + (r1 - r2))) 35 (a2).toNatClampNeg) - (r1 - r2))) 35 (a1).toNatClampNeg) - (r1 - r2))), E)) rfl ?_
  refine gv_is hq rfl rfl h 86 rfl (fun h => ?_)
  refine gv_n hq 1 (S' := (88, [some (.ref 0), some (.int a1), some (.int a2), some (.int (r1 - r2)), some (.int r3)], [.int r3], (sD (sD (sD (sD D 35 (a1).toNatClampNeg ((D 35 (a1).toNatClampNeg) + (r1 - r2))) 35 (a2).toNatClampNeg (((sD D 35 (a1).toNatClampNeg ((D 35 (a1).toNatClampNeg) + (r1 - r2))) 35 (a2).toNatClampNeg) - (r1 - r2))) 35 (a1).toNatClampNeg (((sD (sD D 35 (a1).toNatClampNeg ((D 35 (a1).toNatClampNeg) + (r1 - r2))) 35 (a2).toNatClampNeg (((sD D 35 (a1).toNatClampNeg ((D 35 (a1).toNatClampNeg) + (r1 - r2))) 35 (a2).toNatClampNeg) - (r1 - r2))) 35 (a1).toNatClampNeg) - (r1 - r2))) 35 (a2).toNatClampNeg (((sD (sD (sD D 35 (a1).toNatClampNeg ((D 35 (a1).toNatClampNeg) + (r1 - r2))) 35 (a2).toNatClampNeg (((sD D 35 (a1).toNatClampNeg ((D 35 (a1).toNatClampNeg) + (r1 - r2))) 35 (a2).toNatClampNeg) - (r1 - r2))) 35 (a1).toNatClampNeg (((sD (sD D 35 (a1).toNatClampNeg ((D 35 (a1).toNatClampNeg) + (r1 - r2))) 35 (a2).toNatClampNeg (((sD D 35 (a1).toNatClampNeg ((D 35 (a1).toNatClampNeg) + (r1 - r2))) 35 (a2).toNatClampNeg) - (r1 - r2))) 35 (a1).toNatClampNeg) - (r1 - r2))) 35 (a2).toNatClampNeg) + (r1 - r2))), E)) rfl ?_
  cases h
  exact ev_ret hq rfl rfl ⟨rfl, rfl, rfl⟩
def b_X_pair_64 (F : Nat) (k43 : Int32 → Int32 → Int32 → mx_D → Option (Int32 × mx_D)) (k64 : Int32 → Int32 → Int32 → Int32 → mx_D → Option (Int32 × mx_D)) (l2 : Int32) (l3 : Int32) (l4 : Int32) (l5 : Int32) (D : mx_D) : Option (Int32 × mx_D) := (if (D 24 6) ≤ l5 then (k43 l2 l3 (l4 + (nI 1)) D) else (if (g_Heights_isIn D l4) = 0 then (k64 l2 l3 l4 (l5 + (nI 1)) D) else (if (g_Heights_isIn D l5) = 0 then (k64 l2 l3 l4 (l5 + (nI 1)) D) else (Option.bind (g_X_spreadIfChanged F l4 l5 D) (fun r3 => (if l2 ≤ r3.1 then (k64 l2 l3 l4 (l5 + (nI 1)) r3.2) else (k64 r3.1 (((nI 10) * l4) + l5) l4 (l5 + (nI 1)) r3.2)))))))
set_option maxRecDepth 100000 in
set_option maxHeartbeats 4000000 in
theorem tb_X_pair_64 (X : ev_X) (F : Nat) (d : Nat) (hd : 5 ≤ d + 1) (E : mx_E) (k43 : Int32 → Int32 → Int32 → mx_D → Option (Int32 × mx_D)) (k64 : Int32 → Int32 → Int32 → Int32 → mx_D → Option (Int32 × mx_D)) (K43 : ∀ (l2 : Int32) (l3 : Int32) (l4 : Int32) (D : mx_D) (v : Int32 × mx_D), k43 l2 l3 l4 D = some v → ev X (d + 1) 160 (43, [some (.ref 0), none, some (.int l2), some (.int l3), some (.int l4), none, none], [], D, E) (qR (some (.int v.1)) v.2 E)) (K64 : ∀ (l2 : Int32) (l3 : Int32) (l4 : Int32) (l5 : Int32) (D : mx_D) (v : Int32 × mx_D), k64 l2 l3 l4 l5 D = some v → ev X (d + 1) 160 (64, [some (.ref 0), none, some (.int l2), some (.int l3), some (.int l4), some (.int l5), none], [], D, E) (qR (some (.int v.1)) v.2 E)) (l2 : Int32) (l3 : Int32) (l4 : Int32) (l5 : Int32) (D : mx_D) (v : Int32 × mx_D) (h : b_X_pair_64 F k43 k64 l2 l3 l4 l5 D = some v) : ev X (d + 1) 160 (64, [some (.ref 0), none, some (.int l2), some (.int l3), some (.int l4), some (.int l5), none], [], D, E) (qR (some (.int v.1)) v.2 E) := by
  have hq : kq_m 160 = some kq_q160 := rfl
  unfold b_X_pair_64 at h
  refine gv_n hq 5 (S' := (76, [some (.ref 0), none, some (.int l2), some (.int l3), some (.int l4), some (.int l5), none], [.int (D 24 6), .int l5], D, E)) rfl ?_
  refine gv_b hq rfl h 137 79 rfl rfl rfl (fun h => ?_) (fun h => ?_)
  · refine gv_n hq 2 (S' := (43, [some (.ref 0), none, some (.int l2), some (.int l3), some (.int (l4 + (nI 1))), some (.int l5), none], [], D, E)) rfl ?_
    exact gv_w (K43 _ _ _ _ _ h) (And.intro rfl (And.intro rfl (And.intro rfl (And.intro rfl trivial))))
  · refine gv_n hq 3 (S' := (85, [some (.ref 0), none, some (.int l2), some (.int l3), some (.int l4), some (.int l5), none], [.int l4, .ref 34], D, E)) rfl ?_
    refine gv_d hq rfl rfl rfl rfl rfl ((t_Heights_isIn X d D E _ _ rfl)) (S' := (88, [some (.ref 0), none, some (.int l2), some (.int l3), some (.int l4), some (.int l5), none], [.int (g_Heights_isIn D l4)], D, E)) rfl ?_
    refine gv_b hq rfl h 131 91 rfl rfl rfl (fun h => ?_) (fun h => ?_)
    · refine gv_n hq 2 (S' := (64, [some (.ref 0), none, some (.int l2), some (.int l3), some (.int l4), some (.int (l5 + (nI 1))), none], [], D, E)) rfl ?_
      exact gv_w (K64 _ _ _ _ _ _ h) (And.intro rfl (And.intro rfl (And.intro rfl (And.intro rfl (And.intro rfl trivial)))))
    · refine gv_n hq 3 (S' := (97, [some (.ref 0), none, some (.int l2), some (.int l3), some (.int l4), some (.int l5), none], [.int l5, .ref 34], D, E)) rfl ?_
      refine gv_d hq rfl rfl rfl rfl rfl ((t_Heights_isIn X d D E _ _ rfl)) (S' := (100, [some (.ref 0), none, some (.int l2), some (.int l3), some (.int l4), some (.int l5), none], [.int (g_Heights_isIn D l5)], D, E)) rfl ?_
      refine gv_b hq rfl h 131 103 rfl rfl rfl (fun h => ?_) (fun h => ?_)
      · refine gv_n hq 2 (S' := (64, [some (.ref 0), none, some (.int l2), some (.int l3), some (.int l4), some (.int (l5 + (nI 1))), none], [], D, E)) rfl ?_
        exact gv_w (K64 _ _ _ _ _ _ h) (And.intro rfl (And.intro rfl (And.intro rfl (And.intro rfl (And.intro rfl trivial)))))
      · refine gv_n hq 3 (S' := (108, [some (.ref 0), none, some (.int l2), some (.int l3), some (.int l4), some (.int l5), none], [.int l5, .int l4, .ref 0], D, E)) rfl ?_
        obtain ⟨r3, h1, h⟩ := Option.bind_eq_some_iff.mp h
        refine gv_d hq rfl rfl rfl rfl rfl (gv_dd (by omega) (t_X_spreadIfChanged X F (d - 1) (by omega) E _ _ _ _ h1)) (S' := (111, [some (.ref 0), none, some (.int l2), some (.int l3), some (.int l4), some (.int l5), none], [.int r3.1], r3.2, E)) rfl ?_
        refine gv_n hq 3 (S' := (116, [some (.ref 0), none, some (.int l2), some (.int l3), some (.int l4), some (.int l5), some (.int r3.1)], [.int l2, .int r3.1], r3.2, E)) rfl ?_
        refine gv_b hq rfl h 131 119 rfl rfl rfl (fun h => ?_) (fun h => ?_)
        · refine gv_n hq 2 (S' := (64, [some (.ref 0), none, some (.int l2), some (.int l3), some (.int l4), some (.int (l5 + (nI 1))), some (.int r3.1)], [], r3.2, E)) rfl ?_
          exact gv_w (K64 _ _ _ _ _ _ h) (And.intro rfl (And.intro rfl (And.intro rfl (And.intro rfl (And.intro rfl trivial)))))
        · refine gv_n hq 10 (S' := (64, [some (.ref 0), none, some (.int r3.1), some (.int (((nI 10) * l4) + l5)), some (.int l4), some (.int (l5 + (nI 1))), some (.int r3.1)], [], r3.2, E)) rfl ?_
          exact gv_w (K64 _ _ _ _ _ _ h) (And.intro rfl (And.intro rfl (And.intro rfl (And.intro rfl (And.intro rfl trivial)))))
def g_X_pair_64 (F : Nat) (k43 : Int32 → Int32 → Int32 → mx_D → Option (Int32 × mx_D)) : Nat → Int32 → Int32 → Int32 → Int32 → mx_D → Option (Int32 × mx_D) := it (fun k64 => b_X_pair_64 F k43 k64) (fun _ _ _ _ _ => none)
set_option maxRecDepth 100000 in
set_option maxHeartbeats 4000000 in
theorem t_X_pair_64 (X : ev_X) (F : Nat) (d : Nat) (hd : 5 ≤ d + 1) (E : mx_E) (k43 : Int32 → Int32 → Int32 → mx_D → Option (Int32 × mx_D)) (K43 : ∀ (l2 : Int32) (l3 : Int32) (l4 : Int32) (D : mx_D) (v : Int32 × mx_D), k43 l2 l3 l4 D = some v → ev X (d + 1) 160 (43, [some (.ref 0), none, some (.int l2), some (.int l3), some (.int l4), none, none], [], D, E) (qR (some (.int v.1)) v.2 E)) : ∀ (n : Nat) (l2 : Int32) (l3 : Int32) (l4 : Int32) (l5 : Int32) (D : mx_D) (v : Int32 × mx_D), g_X_pair_64 F k43 n l2 l3 l4 l5 D = some v → ev X (d + 1) 160 (64, [some (.ref 0), none, some (.int l2), some (.int l3), some (.int l4), some (.int l5), none], [], D, E) (qR (some (.int v.1)) v.2 E) := by
  intro n
  induction n with
  | zero => intro l2 l3 l4 l5 D v h; cases h
  | succ n ih => intro l2 l3 l4 l5 D v h; exact tb_X_pair_64 X F d hd E k43 (g_X_pair_64 F k43 n) K43 ih l2 l3 l4 l5 D v h
def b_X_pair_43 (F : Nat) (k43 : Int32 → Int32 → Int32 → mx_D → Option (Int32 × mx_D)) (l2 : Int32) (l3 : Int32) (l4 : Int32) (D : mx_D) : Option (Int32 × mx_D) := (if (D 24 6) ≤ l4 then (some (l3, D)) else (g_X_pair_64 F k43 F l2 l3 l4 (l4 + (nI 1)) D))
set_option maxRecDepth 100000 in
set_option maxHeartbeats 4000000 in
theorem tb_X_pair_43 (X : ev_X) (F : Nat) (d : Nat) (hd : 5 ≤ d + 1) (E : mx_E) (k43 : Int32 → Int32 → Int32 → mx_D → Option (Int32 × mx_D)) (K43 : ∀ (l2 : Int32) (l3 : Int32) (l4 : Int32) (D : mx_D) (v : Int32 × mx_D), k43 l2 l3 l4 D = some v → ev X (d + 1) 160 (43, [some (.ref 0), none, some (.int l2), some (.int l3), some (.int l4), none, none], [], D, E) (qR (some (.int v.1)) v.2 E)) (l2 : Int32) (l3 : Int32) (l4 : Int32) (D : mx_D) (v : Int32 × mx_D) (h : b_X_pair_43 F k43 l2 l3 l4 D = some v) : ev X (d + 1) 160 (43, [some (.ref 0), none, some (.int l2), some (.int l3), some (.int l4), none, none], [], D, E) (qR (some (.int v.1)) v.2 E) := by
  have hq : kq_m 160 = some kq_q160 := rfl
  unfold b_X_pair_43 at h
  refine gv_n hq 5 (S' := (55, [some (.ref 0), none, some (.int l2), some (.int l3), some (.int l4), none, none], [.int (D 24 6), .int l4], D, E)) rfl ?_
  refine gv_b hq rfl h 143 58 rfl rfl rfl (fun h => ?_) (fun h => ?_)
  · refine gv_n hq 1 (S' := (144, [some (.ref 0), none, some (.int l2), some (.int l3), some (.int l4), none, none], [.int l3], D, E)) rfl ?_
    cases h
    exact ev_ret hq rfl rfl ⟨rfl, rfl, rfl⟩
  · refine gv_n hq 4 (S' := (64, [some (.ref 0), none, some (.int l2), some (.int l3), some (.int l4), some (.int (l4 + (nI 1))), none], [], D, E)) rfl ?_
    exact gv_w (t_X_pair_64 X F d hd E k43 K43 F _ _ _ _ _ _ h) (And.intro rfl (And.intro rfl (And.intro rfl (And.intro rfl (And.intro rfl trivial)))))
def g_X_pair_43 (F : Nat) : Nat → Int32 → Int32 → Int32 → mx_D → Option (Int32 × mx_D) := it (fun k43 => b_X_pair_43 F k43) (fun _ _ _ _ => none)
set_option maxRecDepth 100000 in
set_option maxHeartbeats 4000000 in
theorem t_X_pair_43 (X : ev_X) (F : Nat) (d : Nat) (hd : 5 ≤ d + 1) (E : mx_E)  : ∀ (n : Nat) (l2 : Int32) (l3 : Int32) (l4 : Int32) (D : mx_D) (v : Int32 × mx_D), g_X_pair_43 F n l2 l3 l4 D = some v → ev X (d + 1) 160 (43, [some (.ref 0), none, some (.int l2), some (.int l3), some (.int l4), none, none], [], D, E) (qR (some (.int v.1)) v.2 E) := by
  intro n
  induction n with
  | zero => intro l2 l3 l4 D v h; cases h
  | succ n ih => intro l2 l3 l4 D v h; exact tb_X_pair_43 X F d hd E (g_X_pair_43 F n) ih l2 l3 l4 D v h
def g_X_pair (F : Nat) (a1 : Int32) (D : mx_D) : Option (Int32 × mx_D) := (if (g_X_canAsk D a1) = 0 then (some ((-2 : Int32), D)) else (Option.bind (g_Heights_take F a1 D) (fun r1 => (Option.bind (g_Heights_spreadOf F r1 (r1 34 2)) (fun r2 => (g_X_pair_43 F F r2 (-1 : Int32) (nI 0) r1))))))
set_option maxRecDepth 100000 in
set_option maxHeartbeats 4000000 in
theorem t_X_pair (X : ev_X) (F : Nat) (d : Nat) (hd : 5 ≤ d + 1) (E : mx_E) (a1 : Int32) (D : mx_D) (v : Int32 × mx_D) (h : g_X_pair F a1 D = some v) : ev X (d + 1) 160 (0, [some (.ref 0), some (.int a1), none, none, none, none, none], [], D, E) (qR (some (.int v.1)) v.2 E) := by
  have hq : kq_m 160 = some kq_q160 := rfl
  unfold g_X_pair at h
  refine gv_n hq 2 (S' := (2, [some (.ref 0), some (.int a1), none, none, none, none, none], [.int a1, .ref 0], D, E)) rfl ?_
  refine gv_d hq rfl rfl rfl rfl rfl (gv_dd (by omega) (t_X_canAsk X (d - 1) (by omega) D E _ _ rfl)) (S' := (5, [some (.ref 0), some (.int a1), none, none, none, none, none], [.int (g_X_canAsk D a1)], D, E)) rfl ?_
  refine gv_b hq rfl h 8 11 rfl rfl rfl (fun h => ?_) (fun h => ?_)
  · refine gv_n hq 1 (S' := (10, [some (.ref 0), some (.int a1), none, none, none, none, none], [.int (-2 : Int32)], D, E)) rfl ?_
    cases h
    exact ev_ret hq rfl rfl ⟨rfl, rfl, rfl⟩
  · refine gv_n hq 5 (S' := (20, [some (.ref 0), some (.int a1), none, none, none, none, none], [.int a1, .ref 19, .ref 34], D, E)) rfl ?_
    obtain ⟨r1, h1, h⟩ := Option.bind_eq_some_iff.mp h
    refine gv_d hq rfl rfl rfl rfl rfl (gv_dd (by omega) (t_Heights_take X F (d - 1) (by omega) E _ _ _ h1)) (S' := (23, [some (.ref 0), some (.int a1), none, none, none, none, none], [], r1, E)) rfl ?_
    refine gv_n hq 5 (S' := (34, [some (.ref 0), some (.int a1), none, none, none, none, none], [.int (r1 34 2), .ref 34], r1, E)) rfl ?_
    obtain ⟨r2, h1, h⟩ := Option.bind_eq_some_iff.mp h
    refine gv_d hq rfl rfl rfl rfl rfl (gv_dd (by omega) (t_Heights_spreadOf X F (d - 1) (by omega) r1 E _ _ h1)) (S' := (37, [some (.ref 0), some (.int a1), none, none, none, none, none], [.int r2], r1, E)) rfl ?_
    refine gv_n hq 5 (S' := (43, [some (.ref 0), some (.int a1), some (.int r2), some (.int (-1 : Int32)), some (.int (nI 0)), none, none], [], r1, E)) rfl ?_
    exact gv_w (t_X_pair_43 X F d hd E F _ _ _ _ _ h) (And.intro rfl (And.intro rfl (And.intro rfl (And.intro rfl trivial))))
def b_M_pair_47 (F : Nat) (k30 : Int32 → Int32 → Int32 → Int32 → mx_D → Option (Int32 × mx_D)) (k47 : Int32 → Int32 → Int32 → Int32 → Int32 → mx_D → Option (Int32 × mx_D)) (l1 : Int32) (l2 : Int32) (l3 : Int32) (l4 : Int32) (l5 : Int32) (D : mx_D) : Option (Int32 × mx_D) := (if (D 117 4) ≤ l5 then (k30 l1 l2 l3 (l4 + (nI 1)) D) else (Option.bind (g_M_areTwo D l4 l5) (fun r4 => (if r4 = 0 then (k47 l1 l2 l3 l4 (l5 + (nI 1)) D) else (Option.bind (g_M_trade l4 l5 D) (fun r5 => (Option.bind (g_M_lay F l1 r5) (fun r6 => (Option.bind (g_M_sitters F r6) (fun r7 => (Option.bind (g_M_spreadOf F r6 r7) (fun r8 => (Option.bind (g_M_trade l4 l5 r6) (fun r9 => (if r8 < l2 then (k47 l1 r8 (((nI 10) * l4) + l5) l4 (l5 + (nI 1)) r9) else (k47 l1 l2 l3 l4 (l5 + (nI 1)) r9))))))))))))))))
set_option maxRecDepth 100000 in
set_option maxHeartbeats 4000000 in
theorem tb_M_pair_47 (X : ev_X) (F : Nat) (d : Nat) (hd : 5 ≤ d + 1) (E : mx_E) (k30 : Int32 → Int32 → Int32 → Int32 → mx_D → Option (Int32 × mx_D)) (k47 : Int32 → Int32 → Int32 → Int32 → Int32 → mx_D → Option (Int32 × mx_D)) (K30 : ∀ (l1 : Int32) (l2 : Int32) (l3 : Int32) (l4 : Int32) (D : mx_D) (v : Int32 × mx_D), k30 l1 l2 l3 l4 D = some v → ev X (d + 1) 304 (30, [some (.ref 116), some (.int l1), some (.int l2), some (.int l3), some (.int l4), none, none], [], D, E) (qR (some (.int v.1)) v.2 E)) (K47 : ∀ (l1 : Int32) (l2 : Int32) (l3 : Int32) (l4 : Int32) (l5 : Int32) (D : mx_D) (v : Int32 × mx_D), k47 l1 l2 l3 l4 l5 D = some v → ev X (d + 1) 304 (47, [some (.ref 116), some (.int l1), some (.int l2), some (.int l3), some (.int l4), some (.int l5), none], [], D, E) (qR (some (.int v.1)) v.2 E)) (l1 : Int32) (l2 : Int32) (l3 : Int32) (l4 : Int32) (l5 : Int32) (D : mx_D) (v : Int32 × mx_D) (h : b_M_pair_47 F k30 k47 l1 l2 l3 l4 l5 D = some v) : ev X (d + 1) 304 (47, [some (.ref 116), some (.int l1), some (.int l2), some (.int l3), some (.int l4), some (.int l5), none], [], D, E) (qR (some (.int v.1)) v.2 E) := by
  have hq : kq_m 304 = some kq_q304 := rfl
  unfold b_M_pair_47 at h
  refine gv_n hq 5 (S' := (55, [some (.ref 116), some (.int l1), some (.int l2), some (.int l3), some (.int l4), some (.int l5), none], [.int (D 117 4), .int l5], D, E)) rfl ?_
  refine gv_b hq rfl h 130 58 rfl rfl rfl (fun h => ?_) (fun h => ?_)
  · refine gv_n hq 2 (S' := (30, [some (.ref 116), some (.int l1), some (.int l2), some (.int l3), some (.int (l4 + (nI 1))), some (.int l5), none], [], D, E)) rfl ?_
    exact gv_w (K30 _ _ _ _ _ _ h) (And.intro rfl (And.intro rfl (And.intro rfl (And.intro rfl (And.intro rfl trivial)))))
  · refine gv_n hq 3 (S' := (63, [some (.ref 116), some (.int l1), some (.int l2), some (.int l3), some (.int l4), some (.int l5), none], [.int l5, .int l4, .ref 116], D, E)) rfl ?_
    obtain ⟨r4, h1, h⟩ := Option.bind_eq_some_iff.mp h
    refine gv_d hq rfl rfl rfl rfl rfl (gv_dd (by omega) (t_M_areTwo X (d - 1) (by omega) D E _ _ _ h1)) (S' := (66, [some (.ref 116), some (.int l1), some (.int l2), some (.int l3), some (.int l4), some (.int l5), none], [.int r4], D, E)) rfl ?_
    refine gv_b hq rfl h 69 72 rfl rfl rfl (fun h => ?_) (fun h => ?_)
    · refine gv_n hq 3 (S' := (47, [some (.ref 116), some (.int l1), some (.int l2), some (.int l3), some (.int l4), some (.int (l5 + (nI 1))), none], [], D, E)) rfl ?_
      exact gv_w (K47 _ _ _ _ _ _ _ h) (And.intro rfl (And.intro rfl (And.intro rfl (And.intro rfl (And.intro rfl (And.intro rfl trivial))))))
    · refine gv_n hq 3 (S' := (77, [some (.ref 116), some (.int l1), some (.int l2), some (.int l3), some (.int l4), some (.int l5), none], [.int l5, .int l4, .ref 116], D, E)) rfl ?_
      obtain ⟨r5, h1, h⟩ := Option.bind_eq_some_iff.mp h
      refine gv_d hq rfl rfl rfl rfl rfl (gv_dd (by omega) (t_M_trade X (d - 1) (by omega) E _ _ _ _ h1)) (S' := (80, [some (.ref 116), some (.int l1), some (.int l2), some (.int l3), some (.int l4), some (.int l5), none], [], r5, E)) rfl ?_
      refine gv_n hq 2 (S' := (82, [some (.ref 116), some (.int l1), some (.int l2), some (.int l3), some (.int l4), some (.int l5), none], [.int l1, .ref 116], r5, E)) rfl ?_
      obtain ⟨r6, h1, h⟩ := Option.bind_eq_some_iff.mp h
      refine gv_d hq rfl rfl rfl rfl rfl (gv_dd (by omega) (t_M_lay X F (d - 1) (by omega) E _ _ _ h1)) (S' := (85, [some (.ref 116), some (.int l1), some (.int l2), some (.int l3), some (.int l4), some (.int l5), none], [], r6, E)) rfl ?_
      refine gv_n hq 2 (S' := (87, [some (.ref 116), some (.int l1), some (.int l2), some (.int l3), some (.int l4), some (.int l5), none], [.ref 116, .ref 116], r6, E)) rfl ?_
      obtain ⟨r7, h1, h⟩ := Option.bind_eq_some_iff.mp h
      refine gv_d hq rfl rfl rfl rfl rfl (gv_dd (by omega) (t_M_sitters X F (d - 1) (by omega) r6 E _ h1)) (S' := (90, [some (.ref 116), some (.int l1), some (.int l2), some (.int l3), some (.int l4), some (.int l5), none], [.int r7, .ref 116], r6, E)) rfl ?_
      obtain ⟨r8, h1, h⟩ := Option.bind_eq_some_iff.mp h
      refine gv_d hq rfl rfl rfl rfl rfl (gv_dd (by omega) (t_M_spreadOf X F (d - 1) (by omega) r6 E _ _ h1)) (S' := (93, [some (.ref 116), some (.int l1), some (.int l2), some (.int l3), some (.int l4), some (.int l5), none], [.int r8], r6, E)) rfl ?_
      refine gv_n hq 4 (S' := (100, [some (.ref 116), some (.int l1), some (.int l2), some (.int l3), some (.int l4), some (.int l5), some (.int r8)], [.int l5, .int l4, .ref 116], r6, E)) rfl ?_
      obtain ⟨r9, h1, h⟩ := Option.bind_eq_some_iff.mp h
      refine gv_d hq rfl rfl rfl rfl rfl (gv_dd (by omega) (t_M_trade X (d - 1) (by omega) E _ _ _ _ h1)) (S' := (103, [some (.ref 116), some (.int l1), some (.int l2), some (.int l3), some (.int l4), some (.int l5), some (.int r8)], [], r9, E)) rfl ?_
      refine gv_n hq 2 (S' := (106, [some (.ref 116), some (.int l1), some (.int l2), some (.int l3), some (.int l4), some (.int l5), some (.int r8)], [.int l2, .int r8], r9, E)) rfl ?_
      refine gv_b hq rfl h 112 109 rfl rfl rfl (fun h => ?_) (fun h => ?_)
      · refine gv_n hq 10 (S' := (47, [some (.ref 116), some (.int l1), some (.int r8), some (.int (((nI 10) * l4) + l5)), some (.int l4), some (.int (l5 + (nI 1))), some (.int r8)], [], r9, E)) rfl ?_
        exact gv_w (K47 _ _ _ _ _ _ _ h) (And.intro rfl (And.intro rfl (And.intro rfl (And.intro rfl (And.intro rfl (And.intro rfl trivial))))))
      · refine gv_n hq 3 (S' := (47, [some (.ref 116), some (.int l1), some (.int l2), some (.int l3), some (.int l4), some (.int (l5 + (nI 1))), some (.int r8)], [], r9, E)) rfl ?_
        exact gv_w (K47 _ _ _ _ _ _ _ h) (And.intro rfl (And.intro rfl (And.intro rfl (And.intro rfl (And.intro rfl (And.intro rfl trivial))))))
def g_M_pair_47 (F : Nat) (k30 : Int32 → Int32 → Int32 → Int32 → mx_D → Option (Int32 × mx_D)) : Nat → Int32 → Int32 → Int32 → Int32 → Int32 → mx_D → Option (Int32 × mx_D) := it (fun k47 => b_M_pair_47 F k30 k47) (fun _ _ _ _ _ _ => none)
set_option maxRecDepth 100000 in
set_option maxHeartbeats 4000000 in
theorem t_M_pair_47 (X : ev_X) (F : Nat) (d : Nat) (hd : 5 ≤ d + 1) (E : mx_E) (k30 : Int32 → Int32 → Int32 → Int32 → mx_D → Option (Int32 × mx_D)) (K30 : ∀ (l1 : Int32) (l2 : Int32) (l3 : Int32) (l4 : Int32) (D : mx_D) (v : Int32 × mx_D), k30 l1 l2 l3 l4 D = some v → ev X (d + 1) 304 (30, [some (.ref 116), some (.int l1), some (.int l2), some (.int l3), some (.int l4), none, none], [], D, E) (qR (some (.int v.1)) v.2 E)) : ∀ (n : Nat) (l1 : Int32) (l2 : Int32) (l3 : Int32) (l4 : Int32) (l5 : Int32) (D : mx_D) (v : Int32 × mx_D), g_M_pair_47 F k30 n l1 l2 l3 l4 l5 D = some v → ev X (d + 1) 304 (47, [some (.ref 116), some (.int l1), some (.int l2), some (.int l3), some (.int l4), some (.int l5), none], [], D, E) (qR (some (.int v.1)) v.2 E) := by
  intro n
  induction n with
  | zero => intro l1 l2 l3 l4 l5 D v h; cases h
  | succ n ih => intro l1 l2 l3 l4 l5 D v h; exact tb_M_pair_47 X F d hd E k30 (g_M_pair_47 F k30 n) K30 ih l1 l2 l3 l4 l5 D v h
def b_M_pair_30 (F : Nat) (k30 : Int32 → Int32 → Int32 → Int32 → mx_D → Option (Int32 × mx_D)) (l1 : Int32) (l2 : Int32) (l3 : Int32) (l4 : Int32) (D : mx_D) : Option (Int32 × mx_D) := (if (D 117 4) ≤ l4 then (some (l3, D)) else (g_M_pair_47 F k30 F l1 l2 l3 l4 (l4 + (nI 1)) D))
set_option maxRecDepth 100000 in
set_option maxHeartbeats 4000000 in
theorem tb_M_pair_30 (X : ev_X) (F : Nat) (d : Nat) (hd : 5 ≤ d + 1) (E : mx_E) (k30 : Int32 → Int32 → Int32 → Int32 → mx_D → Option (Int32 × mx_D)) (K30 : ∀ (l1 : Int32) (l2 : Int32) (l3 : Int32) (l4 : Int32) (D : mx_D) (v : Int32 × mx_D), k30 l1 l2 l3 l4 D = some v → ev X (d + 1) 304 (30, [some (.ref 116), some (.int l1), some (.int l2), some (.int l3), some (.int l4), none, none], [], D, E) (qR (some (.int v.1)) v.2 E)) (l1 : Int32) (l2 : Int32) (l3 : Int32) (l4 : Int32) (D : mx_D) (v : Int32 × mx_D) (h : b_M_pair_30 F k30 l1 l2 l3 l4 D = some v) : ev X (d + 1) 304 (30, [some (.ref 116), some (.int l1), some (.int l2), some (.int l3), some (.int l4), none, none], [], D, E) (qR (some (.int v.1)) v.2 E) := by
  have hq : kq_m 304 = some kq_q304 := rfl
  unfold b_M_pair_30 at h
  refine gv_n hq 5 (S' := (38, [some (.ref 116), some (.int l1), some (.int l2), some (.int l3), some (.int l4), none, none], [.int (D 117 4), .int l4], D, E)) rfl ?_
  refine gv_b hq rfl h 136 41 rfl rfl rfl (fun h => ?_) (fun h => ?_)
  · refine gv_n hq 1 (S' := (137, [some (.ref 116), some (.int l1), some (.int l2), some (.int l3), some (.int l4), none, none], [.int l3], D, E)) rfl ?_
    cases h
    exact ev_ret hq rfl rfl ⟨rfl, rfl, rfl⟩
  · refine gv_n hq 4 (S' := (47, [some (.ref 116), some (.int l1), some (.int l2), some (.int l3), some (.int l4), some (.int (l4 + (nI 1))), none], [], D, E)) rfl ?_
    exact gv_w (t_M_pair_47 X F d hd E k30 K30 F _ _ _ _ _ _ _ h) (And.intro rfl (And.intro rfl (And.intro rfl (And.intro rfl (And.intro rfl (And.intro rfl trivial))))))
def g_M_pair_30 (F : Nat) : Nat → Int32 → Int32 → Int32 → Int32 → mx_D → Option (Int32 × mx_D) := it (fun k30 => b_M_pair_30 F k30) (fun _ _ _ _ _ => none)
set_option maxRecDepth 100000 in
set_option maxHeartbeats 4000000 in
theorem t_M_pair_30 (X : ev_X) (F : Nat) (d : Nat) (hd : 5 ≤ d + 1) (E : mx_E)  : ∀ (n : Nat) (l1 : Int32) (l2 : Int32) (l3 : Int32) (l4 : Int32) (D : mx_D) (v : Int32 × mx_D), g_M_pair_30 F n l1 l2 l3 l4 D = some v → ev X (d + 1) 304 (30, [some (.ref 116), some (.int l1), some (.int l2), some (.int l3), some (.int l4), none, none], [], D, E) (qR (some (.int v.1)) v.2 E) := by
  intro n
  induction n with
  | zero => intro l1 l2 l3 l4 D v h; cases h
  | succ n ih => intro l1 l2 l3 l4 D v h; exact tb_M_pair_30 X F d hd E (g_M_pair_30 F n) ih l1 l2 l3 l4 D v h
def g_M_pair (F : Nat) (a1 : Int32) (D : mx_D) : Option (Int32 × mx_D) := (if (g_M_isYear D a1) = 0 then (some ((-2 : Int32), D)) else (Option.bind (g_M_lay F a1 D) (fun r1 => (Option.bind (g_M_sitters F r1) (fun r2 => (Option.bind (g_M_spreadOf F r1 r2) (fun r3 => (g_M_pair_30 F F a1 r3 (-1 : Int32) (nI 0) r1))))))))
set_option maxRecDepth 100000 in
set_option maxHeartbeats 4000000 in
theorem t_M_pair (X : ev_X) (F : Nat) (d : Nat) (hd : 5 ≤ d + 1) (E : mx_E) (a1 : Int32) (D : mx_D) (v : Int32 × mx_D) (h : g_M_pair F a1 D = some v) : ev X (d + 1) 304 (0, [some (.ref 116), some (.int a1), none, none, none, none, none], [], D, E) (qR (some (.int v.1)) v.2 E) := by
  have hq : kq_m 304 = some kq_q304 := rfl
  unfold g_M_pair at h
  refine gv_n hq 2 (S' := (2, [some (.ref 116), some (.int a1), none, none, none, none, none], [.int a1, .ref 116], D, E)) rfl ?_
  refine gv_d hq rfl rfl rfl rfl rfl (gv_dd (by omega) (t_M_isYear X (d - 1) (by omega) D E _ _ rfl)) (S' := (5, [some (.ref 116), some (.int a1), none, none, none, none, none], [.int (g_M_isYear D a1)], D, E)) rfl ?_
  refine gv_b hq rfl h 8 11 rfl rfl rfl (fun h => ?_) (fun h => ?_)
  · refine gv_n hq 1 (S' := (10, [some (.ref 116), some (.int a1), none, none, none, none, none], [.int (-2 : Int32)], D, E)) rfl ?_
    cases h
    exact ev_ret hq rfl rfl ⟨rfl, rfl, rfl⟩
  · refine gv_n hq 2 (S' := (13, [some (.ref 116), some (.int a1), none, none, none, none, none], [.int a1, .ref 116], D, E)) rfl ?_
    obtain ⟨r1, h1, h⟩ := Option.bind_eq_some_iff.mp h
    refine gv_d hq rfl rfl rfl rfl rfl (gv_dd (by omega) (t_M_lay X F (d - 1) (by omega) E _ _ _ h1)) (S' := (16, [some (.ref 116), some (.int a1), none, none, none, none, none], [], r1, E)) rfl ?_
    refine gv_n hq 2 (S' := (18, [some (.ref 116), some (.int a1), none, none, none, none, none], [.ref 116, .ref 116], r1, E)) rfl ?_
    obtain ⟨r2, h1, h⟩ := Option.bind_eq_some_iff.mp h
    refine gv_d hq rfl rfl rfl rfl rfl (gv_dd (by omega) (t_M_sitters X F (d - 1) (by omega) r1 E _ h1)) (S' := (21, [some (.ref 116), some (.int a1), none, none, none, none, none], [.int r2, .ref 116], r1, E)) rfl ?_
    obtain ⟨r3, h1, h⟩ := Option.bind_eq_some_iff.mp h
    refine gv_d hq rfl rfl rfl rfl rfl (gv_dd (by omega) (t_M_spreadOf X F (d - 1) (by omega) r1 E _ _ h1)) (S' := (24, [some (.ref 116), some (.int a1), none, none, none, none, none], [.int r3], r1, E)) rfl ?_
    refine gv_n hq 5 (S' := (30, [some (.ref 116), some (.int a1), some (.int r3), some (.int (-1 : Int32)), some (.int (nI 0)), none, none], [], r1, E)) rfl ?_
    exact gv_w (t_M_pair_30 X F d hd E F _ _ _ _ _ _ h) (And.intro rfl (And.intro rfl (And.intro rfl (And.intro rfl (And.intro rfl trivial)))))
def b_Church_wearerOf_2 (F : Nat) (D : mx_D) (k2 : Int32 → Int32 → Option (Int32)) (l1 : Int32) (l2 : Int32) : Option (Int32) := (if (D 24 6) ≤ l2 then (some (-1 : Int32)) else (if l1 = (-1 : Int32) then (k2 l1 (l2 + (nI 1))) else (rk 8 l2 (if (D 30 (l2).toNatClampNeg) = l1 then (some l2) else (k2 l1 (l2 + (nI 1)))))))
set_option maxRecDepth 100000 in
set_option maxHeartbeats 4000000 in
theorem tb_Church_wearerOf_2 (X : ev_X) (F : Nat) (d : Nat) (D : mx_D) (E : mx_E) (k2 : Int32 → Int32 → Option (Int32)) (K2 : ∀ (l1 : Int32) (l2 : Int32) (v : Int32), k2 l1 l2 = some v → ev X d 14 (2, [some (.ref 19), some (.int l1), some (.int l2)], [], D, E) (qR (some (.int v)) D E)) (l1 : Int32) (l2 : Int32) (v : Int32) (h : b_Church_wearerOf_2 F D k2 l1 l2 = some v) : ev X d 14 (2, [some (.ref 19), some (.int l1), some (.int l2)], [], D, E) (qR (some (.int v)) D E) := by
  have hq : kq_m 14 = some kq_q14 := rfl
  unfold b_Church_wearerOf_2 at h
  refine gv_n hq 4 (S' := (10, [some (.ref 19), some (.int l1), some (.int l2)], [.int (D 24 6), .int l2], D, E)) rfl ?_
  refine gv_b hq rfl h 39 13 rfl rfl rfl (fun h => ?_) (fun h => ?_)
  · refine gv_n hq 1 (S' := (40, [some (.ref 19), some (.int l1), some (.int l2)], [.int (-1 : Int32)], D, E)) rfl ?_
    cases h
    exact ev_ret hq rfl rfl ⟨rfl, rfl, rfl⟩
  · refine gv_n hq 2 (S' := (15, [some (.ref 19), some (.int l1), some (.int l2)], [.int (-1 : Int32), .int l1], D, E)) rfl ?_
    refine gv_b hq rfl h 33 18 rfl rfl rfl (fun h => ?_) (fun h => ?_)
    · refine gv_n hq 2 (S' := (2, [some (.ref 19), some (.int l1), some (.int (l2 + (nI 1)))], [], D, E)) rfl ?_
      exact gv_w (K2 _ _ _ h) (And.intro rfl (And.intro rfl (And.intro rfl trivial)))
    · refine gv_n hq 4 (S' := (26, [some (.ref 19), some (.int l1), some (.int l2)], [.int l2, .ref 30], D, E)) rfl ?_
      refine gv_ia hq rfl rfl rfl h 27 rfl (fun h => ?_)
      refine gv_n hq 1 (S' := (28, [some (.ref 19), some (.int l1), some (.int l2)], [.int l1, .int (D 30 (l2).toNatClampNeg)], D, E)) rfl ?_
      refine gv_b hq rfl h 31 33 rfl rfl rfl (fun h => ?_) (fun h => ?_)
      · refine gv_n hq 1 (S' := (32, [some (.ref 19), some (.int l1), some (.int l2)], [.int l2], D, E)) rfl ?_
        cases h
        exact ev_ret hq rfl rfl ⟨rfl, rfl, rfl⟩
      · refine gv_n hq 2 (S' := (2, [some (.ref 19), some (.int l1), some (.int (l2 + (nI 1)))], [], D, E)) rfl ?_
        exact gv_w (K2 _ _ _ h) (And.intro rfl (And.intro rfl (And.intro rfl trivial)))
def g_Church_wearerOf_2 (F : Nat) (D : mx_D) : Nat → Int32 → Int32 → Option (Int32) := it (fun k2 => b_Church_wearerOf_2 F D k2) (fun _ _ => none)
set_option maxRecDepth 100000 in
set_option maxHeartbeats 4000000 in
theorem t_Church_wearerOf_2 (X : ev_X) (F : Nat) (d : Nat) (D : mx_D) (E : mx_E)  : ∀ (n : Nat) (l1 : Int32) (l2 : Int32) (v : Int32), g_Church_wearerOf_2 F D n l1 l2 = some v → ev X d 14 (2, [some (.ref 19), some (.int l1), some (.int l2)], [], D, E) (qR (some (.int v)) D E) := by
  intro n
  induction n with
  | zero => intro l1 l2 v h; cases h
  | succ n ih => intro l1 l2 v h; exact tb_Church_wearerOf_2 X F d D E (g_Church_wearerOf_2 F D n) ih l1 l2 v h
def g_Church_wearerOf (F : Nat) (D : mx_D) (a1 : Int32) : Option (Int32) := (g_Church_wearerOf_2 F D F a1 (nI 0))
set_option maxRecDepth 100000 in
set_option maxHeartbeats 4000000 in
theorem t_Church_wearerOf (X : ev_X) (F : Nat) (d : Nat) (D : mx_D) (E : mx_E) (a1 : Int32) (v : Int32) (h : g_Church_wearerOf F D a1 = some v) : ev X d 14 (0, [some (.ref 19), some (.int a1), none], [], D, E) (qR (some (.int v)) D E) := by
  have hq : kq_m 14 = some kq_q14 := rfl
  unfold g_Church_wearerOf at h
  refine gv_n hq 2 (S' := (2, [some (.ref 19), some (.int a1), some (.int (nI 0))], [], D, E)) rfl ?_
  exact gv_w (t_Church_wearerOf_2 X F d D E F _ _ _ h) (And.intro rfl (And.intro rfl (And.intro rfl trivial)))
def b_X_wears_60 (F : Nat) (l1 : Int32) (l2 : Int32) (l3 : Int32) (s0 : Int32) (D : mx_D) : Option (Int32 × mx_D) := (if s0 = (-1 : Int32) then (rk 8 l1 (some (l3, (sD D 30 (l1).toNatClampNeg l2)))) else (rk 8 s0 (rk 8 l1 (some (l3, (sD (sD D 30 (s0).toNatClampNeg (-1 : Int32)) 30 (l1).toNatClampNeg l2))))))
set_option maxRecDepth 100000 in
set_option maxHeartbeats 4000000 in
theorem tb_X_wears_60 (X : ev_X) (F : Nat) (d : Nat) (hd : 1 ≤ d + 1) (E : mx_E)  (l1 : Int32) (l2 : Int32) (l3 : Int32) (s0 : Int32) (D : mx_D) (v : Int32 × mx_D) (h : b_X_wears_60 F l1 l2 l3 s0 D = some v) : ev X (d + 1) 162 (60, [some (.ref 0), some (.int l1), some (.int l2), some (.int l3), none], [.int s0], D, E) (qR (some (.int v.1)) v.2 E) := by
  have hq : kq_m 162 = some kq_q162 := rfl
  unfold b_X_wears_60 at h
  refine gv_n hq 3 (S' := (65, [some (.ref 0), some (.int l1), some (.int l2), some (.int l3), some (.int s0)], [.int (-1 : Int32), .int s0], D, E)) rfl ?_
  refine gv_b hq rfl h 82 68 rfl rfl rfl (fun h => ?_) (fun h => ?_)
  · refine gv_n hq 6 (S' := (94, [some (.ref 0), some (.int l1), some (.int l2), some (.int l3), some (.int s0)], [.int l2, .int l1, .ref 30], D, E)) rfl ?_
    refine gv_is hq rfl rfl h 95 rfl (fun h => ?_)
    refine gv_n hq 1 (S' := (96, [some (.ref 0), some (.int l1), some (.int l2), some (.int l3), some (.int s0)], [.int l3], (sD D 30 (l1).toNatClampNeg l2), E)) rfl ?_
    cases h
    exact ev_ret hq rfl rfl ⟨rfl, rfl, rfl⟩
  · refine gv_n hq 6 (S' := (81, [some (.ref 0), some (.int l1), some (.int l2), some (.int l3), some (.int s0)], [.int (-1 : Int32), .int s0, .ref 30], D, E)) rfl ?_
    refine gv_is hq rfl rfl h 82 rfl (fun h => ?_)
    refine gv_n hq 6 (S' := (94, [some (.ref 0), some (.int l1), some (.int l2), some (.int l3), some (.int s0)], [.int l2, .int l1, .ref 30], (sD D 30 (s0).toNatClampNeg (-1 : Int32)), E)) rfl ?_
    refine gv_is hq rfl rfl h 95 rfl (fun h => ?_)
    refine gv_n hq 1 (S' := (96, [some (.ref 0), some (.int l1), some (.int l2), some (.int l3), some (.int s0)], [.int l3], (sD (sD D 30 (s0).toNatClampNeg (-1 : Int32)) 30 (l1).toNatClampNeg l2), E)) rfl ?_
    cases h
    exact ev_ret hq rfl rfl ⟨rfl, rfl, rfl⟩
def b_X_wears_30 (F : Nat) (l1 : Int32) (l2 : Int32) (D : mx_D) : Option (Int32 × mx_D) := (rk 8 l1 (if l2 = (-1 : Int32) then (b_X_wears_60 F l1 l2 (D 30 (l1).toNatClampNeg) (-1 : Int32) D) else (Option.bind (g_Church_wearerOf F D l2) (fun r1 => (b_X_wears_60 F l1 l2 (D 30 (l1).toNatClampNeg) r1 D)))))
set_option maxRecDepth 100000 in
set_option maxHeartbeats 4000000 in
theorem tb_X_wears_30 (X : ev_X) (F : Nat) (d : Nat) (hd : 1 ≤ d + 1) (E : mx_E)  (l1 : Int32) (l2 : Int32) (D : mx_D) (v : Int32 × mx_D) (h : b_X_wears_30 F l1 l2 D = some v) : ev X (d + 1) 162 (30, [some (.ref 0), some (.int l1), some (.int l2), none, none], [], D, E) (qR (some (.int v.1)) v.2 E) := by
  have hq : kq_m 162 = some kq_q162 := rfl
  unfold b_X_wears_30 at h
  refine gv_n hq 5 (S' := (41, [some (.ref 0), some (.int l1), some (.int l2), none, none], [.int l1, .ref 30], D, E)) rfl ?_
  refine gv_ia hq rfl rfl rfl h 42 rfl (fun h => ?_)
  refine gv_n hq 3 (S' := (45, [some (.ref 0), some (.int l1), some (.int l2), some (.int (D 30 (l1).toNatClampNeg)), none], [.int (-1 : Int32), .int l2], D, E)) rfl ?_
  refine gv_b hq rfl h 48 52 rfl rfl rfl (fun h => ?_) (fun h => ?_)
  · refine gv_n hq 2 (S' := (60, [some (.ref 0), some (.int l1), some (.int l2), some (.int (D 30 (l1).toNatClampNeg)), none], [.int (-1 : Int32)], D, E)) rfl ?_
    exact gv_w (tb_X_wears_60 X F d hd E _ _ _ _ _ _ h) (And.intro rfl (And.intro rfl (And.intro rfl (And.intro rfl trivial))))
  · refine gv_n hq 3 (S' := (57, [some (.ref 0), some (.int l1), some (.int l2), some (.int (D 30 (l1).toNatClampNeg)), none], [.int l2, .ref 19], D, E)) rfl ?_
    obtain ⟨r1, h1, h⟩ := Option.bind_eq_some_iff.mp h
    refine gv_d hq rfl rfl rfl rfl rfl ((t_Church_wearerOf X F d D E _ _ h1)) (S' := (60, [some (.ref 0), some (.int l1), some (.int l2), some (.int (D 30 (l1).toNatClampNeg)), none], [.int r1], D, E)) rfl ?_
    exact gv_w (tb_X_wears_60 X F d hd E _ _ _ _ _ _ h) (And.intro rfl (And.intro rfl (And.intro rfl (And.intro rfl trivial))))
def g_X_wears (F : Nat) (a1 : Int32) (a2 : Int32) (D : mx_D) : Option (Int32 × mx_D) := (if (g_Church_hasPerson D a1) = 0 then (some ((-2 : Int32), D)) else (if a2 = (-1 : Int32) then (b_X_wears_30 F a1 a2 D) else (if (g_Church_hasHat D a2) = 0 then (some ((-2 : Int32), D)) else (b_X_wears_30 F a1 a2 D))))
set_option maxRecDepth 100000 in
set_option maxHeartbeats 4000000 in
theorem t_X_wears (X : ev_X) (F : Nat) (d : Nat) (hd : 1 ≤ d + 1) (E : mx_E) (a1 : Int32) (a2 : Int32) (D : mx_D) (v : Int32 × mx_D) (h : g_X_wears F a1 a2 D = some v) : ev X (d + 1) 162 (0, [some (.ref 0), some (.int a1), some (.int a2), none, none], [], D, E) (qR (some (.int v.1)) v.2 E) := by
  have hq : kq_m 162 = some kq_q162 := rfl
  unfold g_X_wears at h
  refine gv_n hq 3 (S' := (5, [some (.ref 0), some (.int a1), some (.int a2), none, none], [.int a1, .ref 19], D, E)) rfl ?_
  refine gv_d hq rfl rfl rfl rfl rfl ((t_Church_hasPerson X d D E _ _ rfl)) (S' := (8, [some (.ref 0), some (.int a1), some (.int a2), none, none], [.int (g_Church_hasPerson D a1)], D, E)) rfl ?_
  refine gv_b hq rfl h 27 11 rfl rfl rfl (fun h => ?_) (fun h => ?_)
  · refine gv_n hq 1 (S' := (29, [some (.ref 0), some (.int a1), some (.int a2), none, none], [.int (-2 : Int32)], D, E)) rfl ?_
    cases h
    exact ev_ret hq rfl rfl ⟨rfl, rfl, rfl⟩
  · refine gv_n hq 2 (S' := (13, [some (.ref 0), some (.int a1), some (.int a2), none, none], [.int (-1 : Int32), .int a2], D, E)) rfl ?_
    refine gv_b hq rfl h 30 16 rfl rfl rfl (fun h => ?_) (fun h => ?_)
    · exact gv_w (tb_X_wears_30 X F d hd E _ _ _ _ h) (And.intro rfl (And.intro rfl (And.intro rfl trivial)))
    · refine gv_n hq 3 (S' := (21, [some (.ref 0), some (.int a1), some (.int a2), none, none], [.int a2, .ref 19], D, E)) rfl ?_
      refine gv_d hq rfl rfl rfl rfl rfl ((t_Church_hasHat X d D E _ _ rfl)) (S' := (24, [some (.ref 0), some (.int a1), some (.int a2), none, none], [.int (g_Church_hasHat D a2)], D, E)) rfl ?_
      refine gv_b hq rfl h 27 30 rfl rfl rfl (fun h => ?_) (fun h => ?_)
      · refine gv_n hq 1 (S' := (29, [some (.ref 0), some (.int a1), some (.int a2), none, none], [.int (-2 : Int32)], D, E)) rfl ?_
        cases h
        exact ev_ret hq rfl rfl ⟨rfl, rfl, rfl⟩
      · exact gv_w (tb_X_wears_30 X F d hd E _ _ _ _ h) (And.intro rfl (And.intro rfl (And.intro rfl trivial)))
def b_M_wears_34 (F : Nat) (k34 : Int32 → Int32 → Int32 → Int32 → mx_D → Option (Int32 × mx_D)) (l1 : Int32) (l2 : Int32) (l3 : Int32) (l4 : Int32) (D : mx_D) : Option (Int32 × mx_D) := (if (D 117 4) ≤ l4 then (Option.bind (g_M_set l1 (nI 5) l2 D) (fun r2 => (some (l3, r2)))) else (if l2 = (-1 : Int32) then (k34 l1 l2 l3 (l4 + (nI 1)) D) else (Option.bind (g_M_of D l4 (nI 5)) (fun r3 => (if r3 = l2 then (Option.bind (g_M_set l4 (nI 5) (-1 : Int32) D) (fun r4 => (k34 l1 l2 l3 (l4 + (nI 1)) r4))) else (k34 l1 l2 l3 (l4 + (nI 1)) D))))))
set_option maxRecDepth 100000 in
set_option maxHeartbeats 4000000 in
theorem tb_M_wears_34 (X : ev_X) (F : Nat) (d : Nat) (hd : 2 ≤ d + 1) (E : mx_E) (k34 : Int32 → Int32 → Int32 → Int32 → mx_D → Option (Int32 × mx_D)) (K34 : ∀ (l1 : Int32) (l2 : Int32) (l3 : Int32) (l4 : Int32) (D : mx_D) (v : Int32 × mx_D), k34 l1 l2 l3 l4 D = some v → ev X (d + 1) 305 (34, [some (.ref 116), some (.int l1), some (.int l2), some (.int l3), some (.int l4)], [], D, E) (qR (some (.int v.1)) v.2 E)) (l1 : Int32) (l2 : Int32) (l3 : Int32) (l4 : Int32) (D : mx_D) (v : Int32 × mx_D) (h : b_M_wears_34 F k34 l1 l2 l3 l4 D = some v) : ev X (d + 1) 305 (34, [some (.ref 116), some (.int l1), some (.int l2), some (.int l3), some (.int l4)], [], D, E) (qR (some (.int v.1)) v.2 E) := by
  have hq : kq_m 305 = some kq_q305 := rfl
  unfold b_M_wears_34 at h
  refine gv_n hq 5 (S' := (42, [some (.ref 116), some (.int l1), some (.int l2), some (.int l3), some (.int l4)], [.int (D 117 4), .int l4], D, E)) rfl ?_
  refine gv_b hq rfl h 75 45 rfl rfl rfl (fun h => ?_) (fun h => ?_)
  · refine gv_n hq 4 (S' := (79, [some (.ref 116), some (.int l1), some (.int l2), some (.int l3), some (.int l4)], [.int l2, .int (nI 5), .int l1, .ref 116], D, E)) rfl ?_
    obtain ⟨r2, h1, h⟩ := Option.bind_eq_some_iff.mp h
    refine gv_d hq rfl rfl rfl rfl rfl ((t_M_set X d E _ _ _ _ _ h1)) (S' := (82, [some (.ref 116), some (.int l1), some (.int l2), some (.int l3), some (.int l4)], [], r2, E)) rfl ?_
    refine gv_n hq 1 (S' := (83, [some (.ref 116), some (.int l1), some (.int l2), some (.int l3), some (.int l4)], [.int l3], r2, E)) rfl ?_
    cases h
    exact ev_ret hq rfl rfl ⟨rfl, rfl, rfl⟩
  · refine gv_n hq 2 (S' := (47, [some (.ref 116), some (.int l1), some (.int l2), some (.int l3), some (.int l4)], [.int (-1 : Int32), .int l2], D, E)) rfl ?_
    refine gv_b hq rfl h 69 50 rfl rfl rfl (fun h => ?_) (fun h => ?_)
    · refine gv_n hq 2 (S' := (34, [some (.ref 116), some (.int l1), some (.int l2), some (.int l3), some (.int (l4 + (nI 1)))], [], D, E)) rfl ?_
      exact gv_w (K34 _ _ _ _ _ _ h) (And.intro rfl (And.intro rfl (And.intro rfl (And.intro rfl (And.intro rfl trivial)))))
    · refine gv_n hq 3 (S' := (54, [some (.ref 116), some (.int l1), some (.int l2), some (.int l3), some (.int l4)], [.int (nI 5), .int l4, .ref 116], D, E)) rfl ?_
      obtain ⟨r3, h1, h⟩ := Option.bind_eq_some_iff.mp h
      refine gv_d hq rfl rfl rfl rfl rfl ((t_M_of X d D E _ _ _ h1)) (S' := (57, [some (.ref 116), some (.int l1), some (.int l2), some (.int l3), some (.int l4)], [.int r3], D, E)) rfl ?_
      refine gv_n hq 1 (S' := (58, [some (.ref 116), some (.int l1), some (.int l2), some (.int l3), some (.int l4)], [.int l2, .int r3], D, E)) rfl ?_
      refine gv_b hq rfl h 61 69 rfl rfl rfl (fun h => ?_) (fun h => ?_)
      · refine gv_n hq 4 (S' := (66, [some (.ref 116), some (.int l1), some (.int l2), some (.int l3), some (.int l4)], [.int (-1 : Int32), .int (nI 5), .int l4, .ref 116], D, E)) rfl ?_
        obtain ⟨r4, h1, h⟩ := Option.bind_eq_some_iff.mp h
        refine gv_d hq rfl rfl rfl rfl rfl ((t_M_set X d E _ _ _ _ _ h1)) (S' := (69, [some (.ref 116), some (.int l1), some (.int l2), some (.int l3), some (.int l4)], [], r4, E)) rfl ?_
        refine gv_n hq 2 (S' := (34, [some (.ref 116), some (.int l1), some (.int l2), some (.int l3), some (.int (l4 + (nI 1)))], [], r4, E)) rfl ?_
        exact gv_w (K34 _ _ _ _ _ _ h) (And.intro rfl (And.intro rfl (And.intro rfl (And.intro rfl (And.intro rfl trivial)))))
      · refine gv_n hq 2 (S' := (34, [some (.ref 116), some (.int l1), some (.int l2), some (.int l3), some (.int (l4 + (nI 1)))], [], D, E)) rfl ?_
        exact gv_w (K34 _ _ _ _ _ _ h) (And.intro rfl (And.intro rfl (And.intro rfl (And.intro rfl (And.intro rfl trivial)))))
def g_M_wears_34 (F : Nat) : Nat → Int32 → Int32 → Int32 → Int32 → mx_D → Option (Int32 × mx_D) := it (fun k34 => b_M_wears_34 F k34) (fun _ _ _ _ _ => none)
set_option maxRecDepth 100000 in
set_option maxHeartbeats 4000000 in
theorem t_M_wears_34 (X : ev_X) (F : Nat) (d : Nat) (hd : 2 ≤ d + 1) (E : mx_E)  : ∀ (n : Nat) (l1 : Int32) (l2 : Int32) (l3 : Int32) (l4 : Int32) (D : mx_D) (v : Int32 × mx_D), g_M_wears_34 F n l1 l2 l3 l4 D = some v → ev X (d + 1) 305 (34, [some (.ref 116), some (.int l1), some (.int l2), some (.int l3), some (.int l4)], [], D, E) (qR (some (.int v.1)) v.2 E) := by
  intro n
  induction n with
  | zero => intro l1 l2 l3 l4 D v h; cases h
  | succ n ih => intro l1 l2 l3 l4 D v h; exact tb_M_wears_34 X F d hd E (g_M_wears_34 F n) ih l1 l2 l3 l4 D v h
def g_M_wears (F : Nat) (a1 : Int32) (a2 : Int32) (D : mx_D) : Option (Int32 × mx_D) := (if (g_M_isPerson D a1) = 0 then (some ((-2 : Int32), D)) else (if a2 = (-1 : Int32) then (Option.bind (g_M_of D a1 (nI 5)) (fun r1 => (g_M_wears_34 F F a1 a2 r1 (nI 0) D))) else (if (g_M_isHat D a2) = 0 then (some ((-2 : Int32), D)) else (Option.bind (g_M_of D a1 (nI 5)) (fun r5 => (g_M_wears_34 F F a1 a2 r5 (nI 0) D))))))
set_option maxRecDepth 100000 in
set_option maxHeartbeats 4000000 in
theorem t_M_wears (X : ev_X) (F : Nat) (d : Nat) (hd : 2 ≤ d + 1) (E : mx_E) (a1 : Int32) (a2 : Int32) (D : mx_D) (v : Int32 × mx_D) (h : g_M_wears F a1 a2 D = some v) : ev X (d + 1) 305 (0, [some (.ref 116), some (.int a1), some (.int a2), none, none], [], D, E) (qR (some (.int v.1)) v.2 E) := by
  have hq : kq_m 305 = some kq_q305 := rfl
  unfold g_M_wears at h
  refine gv_n hq 2 (S' := (2, [some (.ref 116), some (.int a1), some (.int a2), none, none], [.int a1, .ref 116], D, E)) rfl ?_
  refine gv_d hq rfl rfl rfl rfl rfl (gv_dd (by omega) (t_M_isPerson X (d - 1) (by omega) D E _ _ rfl)) (S' := (5, [some (.ref 116), some (.int a1), some (.int a2), none, none], [.int (g_M_isPerson D a1)], D, E)) rfl ?_
  refine gv_b hq rfl h 21 8 rfl rfl rfl (fun h => ?_) (fun h => ?_)
  · refine gv_n hq 1 (S' := (23, [some (.ref 116), some (.int a1), some (.int a2), none, none], [.int (-2 : Int32)], D, E)) rfl ?_
    cases h
    exact ev_ret hq rfl rfl ⟨rfl, rfl, rfl⟩
  · refine gv_n hq 2 (S' := (10, [some (.ref 116), some (.int a1), some (.int a2), none, none], [.int (-1 : Int32), .int a2], D, E)) rfl ?_
    refine gv_b hq rfl h 24 13 rfl rfl rfl (fun h => ?_) (fun h => ?_)
    · refine gv_n hq 3 (S' := (27, [some (.ref 116), some (.int a1), some (.int a2), none, none], [.int (nI 5), .int a1, .ref 116], D, E)) rfl ?_
      obtain ⟨r1, h1, h⟩ := Option.bind_eq_some_iff.mp h
      refine gv_d hq rfl rfl rfl rfl rfl ((t_M_of X d D E _ _ _ h1)) (S' := (30, [some (.ref 116), some (.int a1), some (.int a2), none, none], [.int r1], D, E)) rfl ?_
      refine gv_n hq 3 (S' := (34, [some (.ref 116), some (.int a1), some (.int a2), some (.int r1), some (.int (nI 0))], [], D, E)) rfl ?_
      exact gv_w (t_M_wears_34 X F d hd E F _ _ _ _ _ _ h) (And.intro rfl (And.intro rfl (And.intro rfl (And.intro rfl (And.intro rfl trivial)))))
    · refine gv_n hq 2 (S' := (15, [some (.ref 116), some (.int a1), some (.int a2), none, none], [.int a2, .ref 116], D, E)) rfl ?_
      refine gv_d hq rfl rfl rfl rfl rfl (gv_dd (by omega) (t_M_isHat X (d - 1) (by omega) D E _ _ rfl)) (S' := (18, [some (.ref 116), some (.int a1), some (.int a2), none, none], [.int (g_M_isHat D a2)], D, E)) rfl ?_
      refine gv_b hq rfl h 21 24 rfl rfl rfl (fun h => ?_) (fun h => ?_)
      · refine gv_n hq 1 (S' := (23, [some (.ref 116), some (.int a1), some (.int a2), none, none], [.int (-2 : Int32)], D, E)) rfl ?_
        cases h
        exact ev_ret hq rfl rfl ⟨rfl, rfl, rfl⟩
      · refine gv_n hq 3 (S' := (27, [some (.ref 116), some (.int a1), some (.int a2), none, none], [.int (nI 5), .int a1, .ref 116], D, E)) rfl ?_
        obtain ⟨r5, h1, h⟩ := Option.bind_eq_some_iff.mp h
        refine gv_d hq rfl rfl rfl rfl rfl ((t_M_of X d D E _ _ _ h1)) (S' := (30, [some (.ref 116), some (.int a1), some (.int a2), none, none], [.int r5], D, E)) rfl ?_
        refine gv_n hq 3 (S' := (34, [some (.ref 116), some (.int a1), some (.int a2), some (.int r5), some (.int (nI 0))], [], D, E)) rfl ?_
        exact gv_w (t_M_wears_34 X F d hd E F _ _ _ _ _ _ h) (And.intro rfl (And.intro rfl (And.intro rfl (And.intro rfl (And.intro rfl trivial)))))
def b_X_stands_30 (l1 : Int32) (l2 : Int32) (D : mx_D) : Option (Int32 × mx_D) := (rk 5 l2 (rk 5 l2 (some ((D 33 (l2).toNatClampNeg), (sD D 33 (l2).toNatClampNeg l1)))))
set_option maxRecDepth 100000 in
set_option maxHeartbeats 4000000 in
theorem tb_X_stands_30 (X : ev_X) (d : Nat) (hd : 1 ≤ d + 1) (E : mx_E)  (l1 : Int32) (l2 : Int32) (D : mx_D) (v : Int32 × mx_D) (h : b_X_stands_30 l1 l2 D = some v) : ev X (d + 1) 163 (30, [some (.ref 0), some (.int l1), some (.int l2), none], [], D, E) (qR (some (.int v.1)) v.2 E) := by
  have hq : kq_m 163 = some kq_q163 := rfl
  unfold b_X_stands_30 at h
  refine gv_n hq 4 (S' := (38, [some (.ref 0), some (.int l1), some (.int l2), none], [.int l2, .ref 33], D, E)) rfl ?_
  refine gv_ia hq rfl rfl rfl h 39 rfl (fun h => ?_)
  refine gv_n hq 6 (S' := (49, [some (.ref 0), some (.int l1), some (.int l2), some (.int (D 33 (l2).toNatClampNeg))], [.int l1, .int l2, .ref 33], D, E)) rfl ?_
  refine gv_is hq rfl rfl h 50 rfl (fun h => ?_)
  refine gv_n hq 1 (S' := (51, [some (.ref 0), some (.int l1), some (.int l2), some (.int (D 33 (l2).toNatClampNeg))], [.int (D 33 (l2).toNatClampNeg)], (sD D 33 (l2).toNatClampNeg l1), E)) rfl ?_
  cases h
  exact ev_ret hq rfl rfl ⟨rfl, rfl, rfl⟩
def g_X_stands (a1 : Int32) (a2 : Int32) (D : mx_D) : Option (Int32 × mx_D) := (if (g_Church_hasBook D a2) = 0 then (some ((-2 : Int32), D)) else (if a1 = (-1 : Int32) then (b_X_stands_30 a1 a2 D) else (if (g_Church_hasPerson D a1) = 0 then (some ((-2 : Int32), D)) else (b_X_stands_30 a1 a2 D))))
set_option maxRecDepth 100000 in
set_option maxHeartbeats 4000000 in
theorem t_X_stands (X : ev_X) (d : Nat) (hd : 1 ≤ d + 1) (E : mx_E) (a1 : Int32) (a2 : Int32) (D : mx_D) (v : Int32 × mx_D) (h : g_X_stands a1 a2 D = some v) : ev X (d + 1) 163 (0, [some (.ref 0), some (.int a1), some (.int a2), none], [], D, E) (qR (some (.int v.1)) v.2 E) := by
  have hq : kq_m 163 = some kq_q163 := rfl
  unfold g_X_stands at h
  refine gv_n hq 3 (S' := (5, [some (.ref 0), some (.int a1), some (.int a2), none], [.int a2, .ref 19], D, E)) rfl ?_
  refine gv_d hq rfl rfl rfl rfl rfl ((t_Church_hasBook X d D E _ _ rfl)) (S' := (8, [some (.ref 0), some (.int a1), some (.int a2), none], [.int (g_Church_hasBook D a2)], D, E)) rfl ?_
  refine gv_b hq rfl h 27 11 rfl rfl rfl (fun h => ?_) (fun h => ?_)
  · refine gv_n hq 1 (S' := (29, [some (.ref 0), some (.int a1), some (.int a2), none], [.int (-2 : Int32)], D, E)) rfl ?_
    cases h
    exact ev_ret hq rfl rfl ⟨rfl, rfl, rfl⟩
  · refine gv_n hq 2 (S' := (13, [some (.ref 0), some (.int a1), some (.int a2), none], [.int (-1 : Int32), .int a1], D, E)) rfl ?_
    refine gv_b hq rfl h 30 16 rfl rfl rfl (fun h => ?_) (fun h => ?_)
    · exact gv_w (tb_X_stands_30 X d hd E _ _ _ _ h) (And.intro rfl (And.intro rfl (And.intro rfl trivial)))
    · refine gv_n hq 3 (S' := (21, [some (.ref 0), some (.int a1), some (.int a2), none], [.int a1, .ref 19], D, E)) rfl ?_
      refine gv_d hq rfl rfl rfl rfl rfl ((t_Church_hasPerson X d D E _ _ rfl)) (S' := (24, [some (.ref 0), some (.int a1), some (.int a2), none], [.int (g_Church_hasPerson D a1)], D, E)) rfl ?_
      refine gv_b hq rfl h 27 30 rfl rfl rfl (fun h => ?_) (fun h => ?_)
      · refine gv_n hq 1 (S' := (29, [some (.ref 0), some (.int a1), some (.int a2), none], [.int (-2 : Int32)], D, E)) rfl ?_
        cases h
        exact ev_ret hq rfl rfl ⟨rfl, rfl, rfl⟩
      · exact gv_w (tb_X_stands_30 X d hd E _ _ _ _ h) (And.intro rfl (And.intro rfl (And.intro rfl trivial)))
def b_M_stands_13 (l1 : Int32) (l2 : Int32) (D : mx_D) : Option (Int32 × mx_D) := (if (g_M_isBook D l2) = 0 then (some ((-2 : Int32), D)) else (Option.bind (g_M_standsOn D l2) (fun r1 => (Option.bind (g_M_setStands l2 l1 D) (fun r2 => (some (r1, r2)))))))
set_option maxRecDepth 100000 in
set_option maxHeartbeats 4000000 in
theorem tb_M_stands_13 (X : ev_X) (d : Nat) (hd : 2 ≤ d + 1) (E : mx_E)  (l1 : Int32) (l2 : Int32) (D : mx_D) (v : Int32 × mx_D) (h : b_M_stands_13 l1 l2 D = some v) : ev X (d + 1) 306 (13, [some (.ref 116), some (.int l1), some (.int l2), none], [], D, E) (qR (some (.int v.1)) v.2 E) := by
  have hq : kq_m 306 = some kq_q306 := rfl
  unfold b_M_stands_13 at h
  refine gv_n hq 2 (S' := (15, [some (.ref 116), some (.int l1), some (.int l2), none], [.int l2, .ref 116], D, E)) rfl ?_
  refine gv_d hq rfl rfl rfl rfl rfl (gv_dd (by omega) (t_M_isBook X (d - 1) (by omega) D E _ _ rfl)) (S' := (18, [some (.ref 116), some (.int l1), some (.int l2), none], [.int (g_M_isBook D l2)], D, E)) rfl ?_
  refine gv_b hq rfl h 21 24 rfl rfl rfl (fun h => ?_) (fun h => ?_)
  · refine gv_n hq 1 (S' := (23, [some (.ref 116), some (.int l1), some (.int l2), none], [.int (-2 : Int32)], D, E)) rfl ?_
    cases h
    exact ev_ret hq rfl rfl ⟨rfl, rfl, rfl⟩
  · refine gv_n hq 2 (S' := (26, [some (.ref 116), some (.int l1), some (.int l2), none], [.int l2, .ref 116], D, E)) rfl ?_
    obtain ⟨r1, h1, h⟩ := Option.bind_eq_some_iff.mp h
    refine gv_d hq rfl rfl rfl rfl rfl ((t_M_standsOn X d D E _ _ h1)) (S' := (29, [some (.ref 116), some (.int l1), some (.int l2), none], [.int r1], D, E)) rfl ?_
    refine gv_n hq 4 (S' := (33, [some (.ref 116), some (.int l1), some (.int l2), some (.int r1)], [.int l1, .int l2, .ref 116], D, E)) rfl ?_
    obtain ⟨r2, h1, h⟩ := Option.bind_eq_some_iff.mp h
    refine gv_d hq rfl rfl rfl rfl rfl ((t_M_setStands X d E _ _ _ _ h1)) (S' := (36, [some (.ref 116), some (.int l1), some (.int l2), some (.int r1)], [], r2, E)) rfl ?_
    refine gv_n hq 1 (S' := (37, [some (.ref 116), some (.int l1), some (.int l2), some (.int r1)], [.int r1], r2, E)) rfl ?_
    cases h
    exact ev_ret hq rfl rfl ⟨rfl, rfl, rfl⟩
def g_M_stands (a1 : Int32) (a2 : Int32) (D : mx_D) : Option (Int32 × mx_D) := (if a1 = (-1 : Int32) then (b_M_stands_13 a1 a2 D) else (if (g_M_isPerson D a1) = 0 then (some ((-2 : Int32), D)) else (b_M_stands_13 a1 a2 D)))
set_option maxRecDepth 100000 in
set_option maxHeartbeats 4000000 in
theorem t_M_stands (X : ev_X) (d : Nat) (hd : 2 ≤ d + 1) (E : mx_E) (a1 : Int32) (a2 : Int32) (D : mx_D) (v : Int32 × mx_D) (h : g_M_stands a1 a2 D = some v) : ev X (d + 1) 306 (0, [some (.ref 116), some (.int a1), some (.int a2), none], [], D, E) (qR (some (.int v.1)) v.2 E) := by
  have hq : kq_m 306 = some kq_q306 := rfl
  unfold g_M_stands at h
  refine gv_n hq 2 (S' := (2, [some (.ref 116), some (.int a1), some (.int a2), none], [.int (-1 : Int32), .int a1], D, E)) rfl ?_
  refine gv_b hq rfl h 13 5 rfl rfl rfl (fun h => ?_) (fun h => ?_)
  · exact gv_w (tb_M_stands_13 X d hd E _ _ _ _ h) (And.intro rfl (And.intro rfl (And.intro rfl trivial)))
  · refine gv_n hq 2 (S' := (7, [some (.ref 116), some (.int a1), some (.int a2), none], [.int a1, .ref 116], D, E)) rfl ?_
    refine gv_d hq rfl rfl rfl rfl rfl (gv_dd (by omega) (t_M_isPerson X (d - 1) (by omega) D E _ _ rfl)) (S' := (10, [some (.ref 116), some (.int a1), some (.int a2), none], [.int (g_M_isPerson D a1)], D, E)) rfl ?_
    refine gv_b hq rfl h 21 13 rfl rfl rfl (fun h => ?_) (fun h => ?_)
    · refine gv_n hq 1 (S' := (23, [some (.ref 116), some (.int a1), some (.int a2), none], [.int (-2 : Int32)], D, E)) rfl ?_
      cases h
      exact ev_ret hq rfl rfl ⟨rfl, rfl, rfl⟩
    · exact gv_w (tb_M_stands_13 X d hd E _ _ _ _ h) (And.intro rfl (And.intro rfl (And.intro rfl trivial)))
def g_Church_trenchAt (D : mx_D) (a1 : Int32) (a2 : Int32) : Option (Int32) := (if (g_Church_hasPlace D a1 a2) = 0 then (some (nI 0)) else (rk 20 ((a1 * (nI 5)) + a2) (some (D 23 (((a1 * (nI 5)) + a2)).toNatClampNeg))))
set_option maxRecDepth 100000 in
set_option maxHeartbeats 4000000 in
theorem t_Church_trenchAt (X : ev_X) (d : Nat) (hd : 1 ≤ d + 1) (D : mx_D) (E : mx_E) (a1 : Int32) (a2 : Int32) (v : Int32) (h : g_Church_trenchAt D a1 a2 = some v) : ev X (d + 1) 31 (0, [some (.ref 19), some (.int a1), some (.int a2)], [], D, E) (qR (some (.int v)) D E) := by
  have hq : kq_m 31 = some kq_q31 := rfl
  unfold g_Church_trenchAt at h
  refine gv_n hq 3 (S' := (3, [some (.ref 19), some (.int a1), some (.int a2)], [.int a2, .int a1, .ref 19], D, E)) rfl ?_
  refine gv_d hq rfl rfl rfl rfl rfl ((t_Church_hasPlace X d D E _ _ _ rfl)) (S' := (6, [some (.ref 19), some (.int a1), some (.int a2)], [.int (g_Church_hasPlace D a1 a2)], D, E)) rfl ?_
  refine gv_b hq rfl h 22 9 rfl rfl rfl (fun h => ?_) (fun h => ?_)
  · refine gv_n hq 1 (S' := (23, [some (.ref 19), some (.int a1), some (.int a2)], [.int (nI 0)], D, E)) rfl ?_
    cases h
    exact ev_ret hq rfl rfl ⟨rfl, rfl, rfl⟩
  · refine gv_n hq 7 (S' := (18, [some (.ref 19), some (.int a1), some (.int a2)], [.int ((a1 * (nI 5)) + a2), .ref 23], D, E)) rfl ?_
    refine gv_ia hq rfl rfl rfl h 19 rfl (fun h => ?_)
    refine gv_n hq 1 (S' := (23, [some (.ref 19), some (.int a1), some (.int a2)], [.int (D 23 (((a1 * (nI 5)) + a2)).toNatClampNeg)], D, E)) rfl ?_
    cases h
    exact ev_ret hq rfl rfl ⟨rfl, rfl, rfl⟩
def g_Church_dig (a1 : Int32) (a2 : Int32) (a3 : Int32) (D : mx_D) : Option (mx_D) := (if (g_Church_hasPlace D a1 a2) = 0 then (some D) else (rk 20 ((a1 * (nI 5)) + a2) (some (sD D 23 (((a1 * (nI 5)) + a2)).toNatClampNeg a3))))
set_option maxRecDepth 100000 in
set_option maxHeartbeats 4000000 in
theorem t_Church_dig (X : ev_X) (d : Nat) (hd : 1 ≤ d + 1) (E : mx_E) (a1 : Int32) (a2 : Int32) (a3 : Int32) (D : mx_D) (v : mx_D) (h : g_Church_dig a1 a2 a3 D = some v) : ev X (d + 1) 9 (0, [some (.ref 19), some (.int a1), some (.int a2), some (.int a3)], [], D, E) (qR none v E) := by
  have hq : kq_m 9 = some kq_q9 := rfl
  unfold g_Church_dig at h
  refine gv_n hq 3 (S' := (3, [some (.ref 19), some (.int a1), some (.int a2), some (.int a3)], [.int a2, .int a1, .ref 19], D, E)) rfl ?_
  refine gv_d hq rfl rfl rfl rfl rfl ((t_Church_hasPlace X d D E _ _ _ rfl)) (S' := (6, [some (.ref 19), some (.int a1), some (.int a2), some (.int a3)], [.int (g_Church_hasPlace D a1 a2)], D, E)) rfl ?_
  refine gv_b hq rfl h 20 9 rfl rfl rfl (fun h => ?_) (fun h => ?_)
  · cases h
    exact ev_ret hq rfl rfl ⟨rfl, rfl, rfl⟩
  · refine gv_n hq 8 (S' := (19, [some (.ref 19), some (.int a1), some (.int a2), some (.int a3)], [.int a3, .int ((a1 * (nI 5)) + a2), .ref 23], D, E)) rfl ?_
    refine gv_is hq rfl rfl h 20 rfl (fun h => ?_)
    cases h
    exact ev_ret hq rfl rfl ⟨rfl, rfl, rfl⟩
def g_X_trench (a1 : Int32) (a2 : Int32) (a3 : Int32) (D : mx_D) : Option (Int32 × mx_D) := (if (g_Church_hasPlace D a1 a2) = 0 then (some ((-2 : Int32), D)) else (if a3 < 0 then (some ((-2 : Int32), D)) else (if a3 ≤ (nI 60) then (Option.bind (g_Church_trenchAt D a1 a2) (fun r1 => (Option.bind (g_Church_dig a1 a2 a3 D) (fun r2 => (some (r1, r2)))))) else (some ((-2 : Int32), D)))))
set_option maxRecDepth 100000 in
set_option maxHeartbeats 4000000 in
theorem t_X_trench (X : ev_X) (d : Nat) (hd : 2 ≤ d + 1) (E : mx_E) (a1 : Int32) (a2 : Int32) (a3 : Int32) (D : mx_D) (v : Int32 × mx_D) (h : g_X_trench a1 a2 a3 D = some v) : ev X (d + 1) 164 (0, [some (.ref 0), some (.int a1), some (.int a2), some (.int a3), none], [], D, E) (qR (some (.int v.1)) v.2 E) := by
  have hq : kq_m 164 = some kq_q164 := rfl
  unfold g_X_trench at h
  refine gv_n hq 4 (S' := (6, [some (.ref 0), some (.int a1), some (.int a2), some (.int a3), none], [.int a2, .int a1, .ref 19], D, E)) rfl ?_
  refine gv_d hq rfl rfl rfl rfl rfl ((t_Church_hasPlace X d D E _ _ _ rfl)) (S' := (9, [some (.ref 0), some (.int a1), some (.int a2), some (.int a3), none], [.int (g_Church_hasPlace D a1 a2)], D, E)) rfl ?_
  refine gv_b hq rfl h 22 12 rfl rfl rfl (fun h => ?_) (fun h => ?_)
  · refine gv_n hq 1 (S' := (24, [some (.ref 0), some (.int a1), some (.int a2), some (.int a3), none], [.int (-2 : Int32)], D, E)) rfl ?_
    cases h
    exact ev_ret hq rfl rfl ⟨rfl, rfl, rfl⟩
  · refine gv_n hq 1 (S' := (13, [some (.ref 0), some (.int a1), some (.int a2), some (.int a3), none], [.int a3], D, E)) rfl ?_
    refine gv_b hq rfl h 22 16 rfl rfl rfl (fun h => ?_) (fun h => ?_)
    · refine gv_n hq 1 (S' := (24, [some (.ref 0), some (.int a1), some (.int a2), some (.int a3), none], [.int (-2 : Int32)], D, E)) rfl ?_
      cases h
      exact ev_ret hq rfl rfl ⟨rfl, rfl, rfl⟩
    · refine gv_n hq 2 (S' := (19, [some (.ref 0), some (.int a1), some (.int a2), some (.int a3), none], [.int (nI 60), .int a3], D, E)) rfl ?_
      refine gv_b hq rfl h 25 22 rfl rfl rfl (fun h => ?_) (fun h => ?_)
      · refine gv_n hq 4 (S' := (31, [some (.ref 0), some (.int a1), some (.int a2), some (.int a3), none], [.int a2, .int a1, .ref 19], D, E)) rfl ?_
        obtain ⟨r1, h1, h⟩ := Option.bind_eq_some_iff.mp h
        refine gv_d hq rfl rfl rfl rfl rfl (gv_dd (by omega) (t_Church_trenchAt X (d - 1) (by omega) D E _ _ _ h1)) (S' := (34, [some (.ref 0), some (.int a1), some (.int a2), some (.int a3), none], [.int r1], D, E)) rfl ?_
        refine gv_n hq 6 (S' := (43, [some (.ref 0), some (.int a1), some (.int a2), some (.int a3), some (.int r1)], [.int a3, .int a2, .int a1, .ref 19], D, E)) rfl ?_
        obtain ⟨r2, h1, h⟩ := Option.bind_eq_some_iff.mp h
        refine gv_d hq rfl rfl rfl rfl rfl (gv_dd (by omega) (t_Church_dig X (d - 1) (by omega) E _ _ _ _ _ h1)) (S' := (46, [some (.ref 0), some (.int a1), some (.int a2), some (.int a3), some (.int r1)], [], r2, E)) rfl ?_
        refine gv_n hq 1 (S' := (48, [some (.ref 0), some (.int a1), some (.int a2), some (.int a3), some (.int r1)], [.int r1], r2, E)) rfl ?_
        cases h
        exact ev_ret hq rfl rfl ⟨rfl, rfl, rfl⟩
      · refine gv_n hq 1 (S' := (24, [some (.ref 0), some (.int a1), some (.int a2), some (.int a3), none], [.int (-2 : Int32)], D, E)) rfl ?_
        cases h
        exact ev_ret hq rfl rfl ⟨rfl, rfl, rfl⟩
def g_M_trench (a1 : Int32) (a2 : Int32) (a3 : Int32) (D : mx_D) : Option (Int32 × mx_D) := (if (g_M_isPlace D ((a1).toInt64) ((a2).toInt64)) = 0 then (some ((-2 : Int32), D)) else (if (g_M_in ((a3).toInt64) (lN 0) (60 : Int64)) = 0 then (some ((-2 : Int32), D)) else (rk 106 (g_M_trenchAt a1 a2) (rk 106 (g_M_trenchAt a1 a2) (some ((D 117 ((g_M_trenchAt a1 a2)).toNatClampNeg), (sD D 117 ((g_M_trenchAt a1 a2)).toNatClampNeg a3)))))))
set_option maxRecDepth 100000 in
set_option maxHeartbeats 4000000 in
theorem t_M_trench (X : ev_X) (d : Nat) (hd : 3 ≤ d + 1) (E : mx_E) (a1 : Int32) (a2 : Int32) (a3 : Int32) (D : mx_D) (v : Int32 × mx_D) (h : g_M_trench a1 a2 a3 D = some v) : ev X (d + 1) 307 (0, [some (.ref 116), some (.int a1), some (.int a2), some (.int a3), none], [], D, E) (qR (some (.int v.1)) v.2 E) := by
  have hq : kq_m 307 = some kq_q307 := rfl
  unfold g_M_trench at h
  refine gv_n hq 5 (S' := (5, [some (.ref 116), some (.int a1), some (.int a2), some (.int a3), none], [.long ((a2).toInt64), .long ((a1).toInt64), .ref 116], D, E)) rfl ?_
  refine gv_d hq rfl rfl rfl rfl rfl (gv_dd (by omega) (t_M_isPlace X (d - 1) (by omega) D E _ _ _ rfl)) (S' := (8, [some (.ref 116), some (.int a1), some (.int a2), some (.int a3), none], [.int (g_M_isPlace D ((a1).toInt64) ((a2).toInt64))], D, E)) rfl ?_
  refine gv_b hq rfl h 23 11 rfl rfl rfl (fun h => ?_) (fun h => ?_)
  · refine gv_n hq 1 (S' := (25, [some (.ref 116), some (.int a1), some (.int a2), some (.int a3), none], [.int (-2 : Int32)], D, E)) rfl ?_
    cases h
    exact ev_ret hq rfl rfl ⟨rfl, rfl, rfl⟩
  · refine gv_n hq 4 (S' := (17, [some (.ref 116), some (.int a1), some (.int a2), some (.int a3), none], [.long (60 : Int64), .long (lN 0), .long ((a3).toInt64)], D, E)) rfl ?_
    refine gv_d hq rfl rfl rfl rfl rfl ((t_M_in X d D E _ _ _ _ rfl)) (S' := (20, [some (.ref 116), some (.int a1), some (.int a2), some (.int a3), none], [.int (g_M_in ((a3).toInt64) (lN 0) (60 : Int64))], D, E)) rfl ?_
    refine gv_b hq rfl h 23 26 rfl rfl rfl (fun h => ?_) (fun h => ?_)
    · refine gv_n hq 1 (S' := (25, [some (.ref 116), some (.int a1), some (.int a2), some (.int a3), none], [.int (-2 : Int32)], D, E)) rfl ?_
      cases h
      exact ev_ret hq rfl rfl ⟨rfl, rfl, rfl⟩
    · refine gv_n hq 5 (S' := (33, [some (.ref 116), some (.int a1), some (.int a2), some (.int a3), none], [.int a2, .int a1, .ref 116, .ref 117], D, E)) rfl ?_
      refine gv_d hq rfl rfl rfl rfl rfl ((t_M_trenchAt X d D E _ _ _ rfl)) (S' := (36, [some (.ref 116), some (.int a1), some (.int a2), some (.int a3), none], [.int (g_M_trenchAt a1 a2), .ref 117], D, E)) rfl ?_
      refine gv_ia hq rfl rfl rfl h 37 rfl (fun h => ?_)
      refine gv_n hq 6 (S' := (46, [some (.ref 116), some (.int a1), some (.int a2), some (.int a3), some (.int (D 117 ((g_M_trenchAt a1 a2)).toNatClampNeg))], [.int a2, .int a1, .ref 116, .ref 117], D, E)) rfl ?_
      refine gv_d hq rfl rfl rfl rfl rfl ((t_M_trenchAt X d D E _ _ _ rfl)) (S' := (49, [some (.ref 116), some (.int a1), some (.int a2), some (.int a3), some (.int (D 117 ((g_M_trenchAt a1 a2)).toNatClampNeg))], [.int (g_M_trenchAt a1 a2), .ref 117], D, E)) rfl ?_
      refine gv_n hq 1 (S' := (50, [some (.ref 116), some (.int a1), some (.int a2), some (.int a3), some (.int (D 117 ((g_M_trenchAt a1 a2)).toNatClampNeg))], [.int a3, .int (g_M_trenchAt a1 a2), .ref 117], D, E)) rfl ?_
      refine gv_is hq rfl rfl h 51 rfl (fun h => ?_)
      refine gv_n hq 1 (S' := (53, [some (.ref 116), some (.int a1), some (.int a2), some (.int a3), some (.int (D 117 ((g_M_trenchAt a1 a2)).toNatClampNeg))], [.int (D 117 ((g_M_trenchAt a1 a2)).toNatClampNeg)], (sD D 117 ((g_M_trenchAt a1 a2)).toNatClampNeg a3), E)) rfl ?_
      cases h
      exact ev_ret hq rfl rfl ⟨rfl, rfl, rfl⟩
def b_X_digs_69 (F : Nat) (k69 : Int32 → Int32 → mx_D → Option (Int32 × mx_D)) (l1 : Int32) (l3 : Int32) (D : mx_D) : Option (Int32 × mx_D) := (if (nI 60) < l3 then (some ((-1 : Int32), D)) else (Option.bind (g_X_allAreLevel F D) (fun r4 => (if r4 = 0 then (rk 8 l1 (rk 8 l1 (k69 l1 (l3 + (nI 1)) (sD D 35 (l1).toNatClampNeg ((D 35 (l1).toNatClampNeg) - (nI 1)))))) else (some (l3, D))))))
set_option maxRecDepth 100000 in
set_option maxHeartbeats 4000000 in
theorem tb_X_digs_69 (X : ev_X) (F : Nat) (d : Nat) (hd : 5 ≤ d + 1) (E : mx_E) (k69 : Int32 → Int32 → mx_D → Option (Int32 × mx_D)) (K69 : ∀ (l1 : Int32) (l3 : Int32) (D : mx_D) (v : Int32 × mx_D), k69 l1 l3 D = some v → ev X (d + 1) 155 (69, [some (.ref 0), some (.int l1), none, some (.int l3)], [], D, E) (qR (some (.int v.1)) v.2 E)) (l1 : Int32) (l3 : Int32) (D : mx_D) (v : Int32 × mx_D) (h : b_X_digs_69 F k69 l1 l3 D = some v) : ev X (d + 1) 155 (69, [some (.ref 0), some (.int l1), none, some (.int l3)], [], D, E) (qR (some (.int v.1)) v.2 E) := by
  have hq : kq_m 155 = some kq_q155 := rfl
  unfold b_X_digs_69 at h
  refine gv_n hq 2 (S' := (72, [some (.ref 0), some (.int l1), none, some (.int l3)], [.int (nI 60), .int l3], D, E)) rfl ?_
  refine gv_b hq rfl h 103 75 rfl rfl rfl (fun h => ?_) (fun h => ?_)
  · refine gv_n hq 1 (S' := (104, [some (.ref 0), some (.int l1), none, some (.int l3)], [.int (-1 : Int32)], D, E)) rfl ?_
    cases h
    exact ev_ret hq rfl rfl ⟨rfl, rfl, rfl⟩
  · refine gv_n hq 1 (S' := (76, [some (.ref 0), some (.int l1), none, some (.int l3)], [.ref 0], D, E)) rfl ?_
    obtain ⟨r4, h1, h⟩ := Option.bind_eq_some_iff.mp h
    refine gv_d hq rfl rfl rfl rfl rfl (gv_dd (by omega) (t_X_allAreLevel X F (d - 1) (by omega) D E _ h1)) (S' := (79, [some (.ref 0), some (.int l1), none, some (.int l3)], [.int r4], D, E)) rfl ?_
    refine gv_b hq rfl h 84 82 rfl rfl rfl (fun h => ?_) (fun h => ?_)
    · refine gv_n hq 5 (S' := (93, [some (.ref 0), some (.int l1), none, some (.int l3)], [.int l1, .ref 35, .int l1, .ref 35], D, E)) rfl ?_
      refine gv_ia hq rfl rfl rfl h 94 rfl (fun h => ?_)
      refine gv_n hq 2 (S' := (96, [some (.ref 0), some (.int l1), none, some (.int l3)], [.int ((D 35 (l1).toNatClampNeg) - (nI 1)), .int l1, .ref 35], D, E)) rfl ?_
      refine gv_is hq rfl rfl h 97 rfl (fun h => ?_)
      refine gv_n hq 2 (S' := (69, [some (.ref 0), some (.int l1), none, some (.int (l3 + (nI 1)))], [], (sD D 35 (l1).toNatClampNeg ((D 35 (l1).toNatClampNeg) - (nI 1))), E)) rfl ?_
      exact gv_w (K69 _ _ _ _ h) (And.intro rfl (And.intro rfl (And.intro rfl trivial)))
    · refine gv_n hq 1 (S' := (83, [some (.ref 0), some (.int l1), none, some (.int l3)], [.int l3], D, E)) rfl ?_
      cases h
      exact ev_ret hq rfl rfl ⟨rfl, rfl, rfl⟩
def g_X_digs_69 (F : Nat) : Nat → Int32 → Int32 → mx_D → Option (Int32 × mx_D) := it (fun k69 => b_X_digs_69 F k69) (fun _ _ _ => none)
set_option maxRecDepth 100000 in
set_option maxHeartbeats 4000000 in
theorem t_X_digs_69 (X : ev_X) (F : Nat) (d : Nat) (hd : 5 ≤ d + 1) (E : mx_E)  : ∀ (n : Nat) (l1 : Int32) (l3 : Int32) (D : mx_D) (v : Int32 × mx_D), g_X_digs_69 F n l1 l3 D = some v → ev X (d + 1) 155 (69, [some (.ref 0), some (.int l1), none, some (.int l3)], [], D, E) (qR (some (.int v.1)) v.2 E) := by
  intro n
  induction n with
  | zero => intro l1 l3 D v h; cases h
  | succ n ih => intro l1 l3 D v h; exact tb_X_digs_69 X F d hd E (g_X_digs_69 F n) ih l1 l3 D v h
def g_X_digs (F : Nat) (a1 : Int32) (a2 : Int32) (D : mx_D) : Option (Int32 × mx_D) := (Option.bind (g_X_canAskOfSitter D a1 a2) (fun r1 => (if r1 = 0 then (some ((-2 : Int32), D)) else (Option.bind (g_Heights_take F a2 D) (fun r2 => (rk 8 a1 (rk 8 a1 (rk 8 a1 (Option.bind (g_Church_trenchAt r2 (r2 28 (a1).toNatClampNeg) (r2 29 (a1).toNatClampNeg)) (fun r3 => (rk 8 a1 (g_X_digs_69 F F a1 (nI 0) (sD r2 35 (a1).toNatClampNeg ((r2 35 (a1).toNatClampNeg) + r3))))))))))))))
set_option maxRecDepth 100000 in
set_option maxHeartbeats 4000000 in
theorem t_X_digs (X : ev_X) (F : Nat) (d : Nat) (hd : 5 ≤ d + 1) (E : mx_E) (a1 : Int32) (a2 : Int32) (D : mx_D) (v : Int32 × mx_D) (h : g_X_digs F a1 a2 D = some v) : ev X (d + 1) 155 (0, [some (.ref 0), some (.int a1), some (.int a2), none], [], D, E) (qR (some (.int v.1)) v.2 E) := by
  have hq : kq_m 155 = some kq_q155 := rfl
  unfold g_X_digs at h
  refine gv_n hq 3 (S' := (3, [some (.ref 0), some (.int a1), some (.int a2), none], [.int a2, .int a1, .ref 0], D, E)) rfl ?_
  obtain ⟨r1, h1, h⟩ := Option.bind_eq_some_iff.mp h
  refine gv_d hq rfl rfl rfl rfl rfl (gv_dd (by omega) (t_X_canAskOfSitter X (d - 1) (by omega) D E _ _ _ h1)) (S' := (6, [some (.ref 0), some (.int a1), some (.int a2), none], [.int r1], D, E)) rfl ?_
  refine gv_b hq rfl h 9 12 rfl rfl rfl (fun h => ?_) (fun h => ?_)
  · refine gv_n hq 1 (S' := (11, [some (.ref 0), some (.int a1), some (.int a2), none], [.int (-2 : Int32)], D, E)) rfl ?_
    cases h
    exact ev_ret hq rfl rfl ⟨rfl, rfl, rfl⟩
  · refine gv_n hq 5 (S' := (21, [some (.ref 0), some (.int a1), some (.int a2), none], [.int a2, .ref 19, .ref 34], D, E)) rfl ?_
    obtain ⟨r2, h1, h⟩ := Option.bind_eq_some_iff.mp h
    refine gv_d hq rfl rfl rfl rfl rfl (gv_dd (by omega) (t_Heights_take X F (d - 1) (by omega) E _ _ _ h1)) (S' := (24, [some (.ref 0), some (.int a1), some (.int a2), none], [], r2, E)) rfl ?_
    refine gv_n hq 5 (S' := (33, [some (.ref 0), some (.int a1), some (.int a2), none], [.int a1, .ref 35, .int a1, .ref 35], r2, E)) rfl ?_
    refine gv_ia hq rfl rfl rfl h 34 rfl (fun h => ?_)
    refine gv_n hq 7 (S' := (49, [some (.ref 0), some (.int a1), some (.int a2), none], [.int a1, .ref 28, .ref 19, .int (r2 35 (a1).toNatClampNeg), .int a1, .ref 35], r2, E)) rfl ?_
    refine gv_ia hq rfl rfl rfl h 50 rfl (fun h => ?_)
    refine gv_n hq 5 (S' := (61, [some (.ref 0), some (.int a1), some (.int a2), none], [.int a1, .ref 29, .int (r2 28 (a1).toNatClampNeg), .ref 19, .int (r2 35 (a1).toNatClampNeg), .int a1, .ref 35], r2, E)) rfl ?_
    refine gv_ia hq rfl rfl rfl h 62 rfl (fun h => ?_)
    obtain ⟨r3, h1, h⟩ := Option.bind_eq_some_iff.mp h
    refine gv_d hq rfl rfl rfl rfl rfl (gv_dd (by omega) (t_Church_trenchAt X (d - 1) (by omega) r2 E _ _ _ h1)) (S' := (65, [some (.ref 0), some (.int a1), some (.int a2), none], [.int r3, .int (r2 35 (a1).toNatClampNeg), .int a1, .ref 35], r2, E)) rfl ?_
    refine gv_n hq 1 (S' := (66, [some (.ref 0), some (.int a1), some (.int a2), none], [.int ((r2 35 (a1).toNatClampNeg) + r3), .int a1, .ref 35], r2, E)) rfl ?_
    refine gv_is hq rfl rfl h 67 rfl (fun h => ?_)
    refine gv_n hq 2 (S' := (69, [some (.ref 0), some (.int a1), some (.int a2), some (.int (nI 0))], [], (sD r2 35 (a1).toNatClampNeg ((r2 35 (a1).toNatClampNeg) + r3)), E)) rfl ?_
    exact gv_w (t_X_digs_69 X F d hd E F _ _ _ _ h) (And.intro rfl (And.intro rfl (And.intro rfl trivial)))
