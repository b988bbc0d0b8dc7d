/-! ===== pictures of the methods and the rows that tie them to their frames, printed by a program of mine ===== -/
def g_X_rings (F : Nat) (a1 : Int32) (a2 : Int32) (D : mx_D) : Option (Int32 × mx_D) := (if (g_X_canAsk D a1) = 0 then (some ((-2 : Int32), D)) else (if a2 < 0 then (some ((-2 : Int32), D)) else (if a2 ≤ (nI 1) then (Option.bind (g_HatSearch_find F a1 (nI 0) D) (fun r1 => (if (r1 51 1) = 0 then (some ((-1 : Int32), r1)) else (if a2 = (nI 1) then (Option.bind (g_HatSearch_ringsOf F r1 (nI 1)) (fun r2 => (some (r2, r1)))) else (Option.bind (g_HatSearch_ringsOf F r1 (nI 0)) (fun r3 => (some (r3, r1)))))))) else (some ((-2 : Int32), D)))))
set_option maxRecDepth 100000 in
set_option maxHeartbeats 4000000 in
theorem t_X_rings (X : ev_X) (F : Nat) (d : Nat) (hd : 104 ≤ d + 1) (E : mx_E) (a1 : Int32) (a2 : Int32) (D : mx_D) (v : Int32 × mx_D) (h : g_X_rings F a1 a2 D = some v) : ev X (d + 1) 146 (0, [some (.ref 0), some (.int a1), some (.int a2)], [], D, E) (qR (some (.int v.1)) v.2 E) := by
  have hq : kq_m 146 = some kq_q146 := rfl
  unfold g_X_rings at h
  refine gv_n hq 2 (S' := (2, [some (.ref 0), some (.int a1), some (.int a2)], [.int a1, .ref 0], D, E)) rfl ?_
  refine gv_d hq rfl rfl rfl rfl rfl (gv_dd (by omega) (t_X_canAsk X (d - 1) (by omega) D E _ _ rfl)) (S' := (5, [some (.ref 0), some (.int a1), some (.int a2)], [.int (g_X_canAsk D a1)], D, E)) rfl ?_
  refine gv_b hq rfl h 17 8 rfl rfl rfl (fun h => ?_) (fun h => ?_)
  · refine gv_n hq 1 (S' := (19, [some (.ref 0), some (.int a1), some (.int a2)], [.int (-2 : Int32)], D, E)) rfl ?_
    cases h
    exact ev_ret hq rfl rfl ⟨rfl, rfl, rfl⟩
  · refine gv_n hq 1 (S' := (9, [some (.ref 0), some (.int a1), some (.int a2)], [.int a2], D, E)) rfl ?_
    refine gv_b hq rfl h 17 12 rfl rfl rfl (fun h => ?_) (fun h => ?_)
    · refine gv_n hq 1 (S' := (19, [some (.ref 0), some (.int a1), some (.int a2)], [.int (-2 : Int32)], D, E)) rfl ?_
      cases h
      exact ev_ret hq rfl rfl ⟨rfl, rfl, rfl⟩
    · refine gv_n hq 2 (S' := (14, [some (.ref 0), some (.int a1), some (.int a2)], [.int (nI 1), .int a2], D, E)) rfl ?_
      refine gv_b hq rfl h 20 17 rfl rfl rfl (fun h => ?_) (fun h => ?_)
      · refine gv_n hq 4 (S' := (26, [some (.ref 0), some (.int a1), some (.int a2)], [.int (nI 0), .int a1, .ref 51], D, E)) rfl ?_
        obtain ⟨r1, h1, h⟩ := Option.bind_eq_some_iff.mp h
        refine gv_d hq rfl rfl rfl rfl rfl (gv_dd (by omega) (t_HatSearch_find X F (d - 1) (by omega) E _ _ _ _ h1)) (S' := (29, [some (.ref 0), some (.int a1), some (.int a2)], [], r1, E)) rfl ?_
        refine gv_n hq 3 (S' := (36, [some (.ref 0), some (.int a1), some (.int a2)], [.int (r1 51 1)], r1, E)) rfl ?_
        refine gv_b hq rfl h 39 41 rfl rfl rfl (fun h => ?_) (fun h => ?_)
        · refine gv_n hq 1 (S' := (40, [some (.ref 0), some (.int a1), some (.int a2)], [.int (-1 : Int32)], r1, E)) rfl ?_
          cases h
          exact ev_ret hq rfl rfl ⟨rfl, rfl, rfl⟩
        · refine gv_n hq 4 (S' := (47, [some (.ref 0), some (.int a1), some (.int a2)], [.int (nI 1), .int a2, .ref 51], r1, E)) rfl ?_
          refine gv_b hq rfl h 50 54 rfl rfl rfl (fun h => ?_) (fun h => ?_)
          · refine gv_n hq 2 (S' := (55, [some (.ref 0), some (.int a1), some (.int a2)], [.int (nI 1), .ref 51], r1, E)) rfl ?_
            obtain ⟨r2, h1, h⟩ := Option.bind_eq_some_iff.mp h
            refine gv_d hq rfl rfl rfl rfl rfl (gv_dd (by omega) (t_HatSearch_ringsOf X F (d - 1) (by omega) r1 E _ _ h1)) (S' := (58, [some (.ref 0), some (.int a1), some (.int a2)], [.int r2], r1, E)) rfl ?_
            cases h
            exact ev_ret hq rfl rfl ⟨rfl, rfl, rfl⟩
          · refine gv_n hq 1 (S' := (55, [some (.ref 0), some (.int a1), some (.int a2)], [.int (nI 0), .ref 51], r1, E)) rfl ?_
            obtain ⟨r3, h1, h⟩ := Option.bind_eq_some_iff.mp h
            refine gv_d hq rfl rfl rfl rfl rfl (gv_dd (by omega) (t_HatSearch_ringsOf X F (d - 1) (by omega) r1 E _ _ h1)) (S' := (58, [some (.ref 0), some (.int a1), some (.int a2)], [.int r3], r1, E)) rfl ?_
            cases h
            exact ev_ret hq rfl rfl ⟨rfl, rfl, rfl⟩
      · refine gv_n hq 1 (S' := (19, [some (.ref 0), some (.int a1), some (.int a2)], [.int (-2 : Int32)], D, E)) rfl ?_
        cases h
        exact ev_ret hq rfl rfl ⟨rfl, rfl, rfl⟩
def b_M_getsHatOf_22 (F : Nat) (D : mx_D) (k22 : Int32 → Int32 → Option (Int32)) (l1 : Int32) (l2 : Int32) : Option (Int32) := (if (D 117 4) ≤ l2 then (some (-1 : Int32)) else (Option.bind (g_M_sits D l2) (fun r3 => (if r3 = 0 then (k22 l1 (l2 + (nI 1))) else (rk 8 l2 (Option.bind (g_M_of D l1 (nI 5)) (fun r4 => (if (D 132 (l2).toNatClampNeg) = r4 then (some l2) else (k22 l1 (l2 + (nI 1)))))))))))
set_option maxRecDepth 100000 in
set_option maxHeartbeats 4000000 in
theorem tb_M_getsHatOf_22 (X : ev_X) (F : Nat) (d : Nat) (hd : 2 ≤ d + 1) (D : mx_D) (E : mx_E) (k22 : Int32 → Int32 → Option (Int32)) (K22 : ∀ (l1 : Int32) (l2 : Int32) (v : Int32), k22 l1 l2 = some v → ev X (d + 1) 284 (22, [some (.ref 116), some (.int l1), some (.int l2)], [], D, E) (qR (some (.int v)) D E)) (l1 : Int32) (l2 : Int32) (v : Int32) (h : b_M_getsHatOf_22 F D k22 l1 l2 = some v) : ev X (d + 1) 284 (22, [some (.ref 116), some (.int l1), some (.int l2)], [], D, E) (qR (some (.int v)) D E) := by
  have hq : kq_m 284 = some kq_q284 := rfl
  unfold b_M_getsHatOf_22 at h
  refine gv_n hq 5 (S' := (29, [some (.ref 116), some (.int l1), some (.int l2)], [.int (D 117 4), .int l2], D, E)) rfl ?_
  refine gv_b hq rfl h 63 32 rfl rfl rfl (fun h => ?_) (fun h => ?_)
  · refine gv_n hq 1 (S' := (64, [some (.ref 116), some (.int l1), some (.int l2)], [.int (-1 : Int32)], D, E)) rfl ?_
    cases h
    exact ev_ret hq rfl rfl ⟨rfl, rfl, rfl⟩
  · refine gv_n hq 2 (S' := (34, [some (.ref 116), some (.int l1), some (.int l2)], [.int l2, .ref 116], D, E)) rfl ?_
    obtain ⟨r3, h1, h⟩ := Option.bind_eq_some_iff.mp h
    refine gv_d hq rfl rfl rfl rfl rfl (gv_dd (by omega) (t_M_sits X (d - 1) (by omega) D E _ _ h1)) (S' := (37, [some (.ref 116), some (.int l1), some (.int l2)], [.int r3], D, E)) rfl ?_
    refine gv_b hq rfl h 57 40 rfl rfl rfl (fun h => ?_) (fun h => ?_)
    · refine gv_n hq 2 (S' := (22, [some (.ref 116), some (.int l1), some (.int (l2 + (nI 1)))], [], D, E)) rfl ?_
      exact gv_w (K22 _ _ _ h) (And.intro rfl (And.intro rfl (And.intro rfl trivial)))
    · refine gv_n hq 3 (S' := (45, [some (.ref 116), some (.int l1), some (.int l2)], [.int l2, .ref 132], D, E)) rfl ?_
      refine gv_ia hq rfl rfl rfl h 46 rfl (fun h => ?_)
      refine gv_n hq 3 (S' := (49, [some (.ref 116), some (.int l1), some (.int l2)], [.int (nI 5), .int l1, .ref 116, .int (D 132 (l2).toNatClampNeg)], D, E)) rfl ?_
      obtain ⟨r4, h1, h⟩ := Option.bind_eq_some_iff.mp h
      refine gv_d hq rfl rfl rfl rfl rfl ((t_M_of X d D E _ _ _ h1)) (S' := (52, [some (.ref 116), some (.int l1), some (.int l2)], [.int r4, .int (D 132 (l2).toNatClampNeg)], D, E)) rfl ?_
      refine gv_b hq rfl h 55 57 rfl rfl rfl (fun h => ?_) (fun h => ?_)
      · refine gv_n hq 1 (S' := (56, [some (.ref 116), some (.int l1), some (.int l2)], [.int l2], D, E)) rfl ?_
        cases h
        exact ev_ret hq rfl rfl ⟨rfl, rfl, rfl⟩
      · refine gv_n hq 2 (S' := (22, [some (.ref 116), some (.int l1), some (.int (l2 + (nI 1)))], [], D, E)) rfl ?_
        exact gv_w (K22 _ _ _ h) (And.intro rfl (And.intro rfl (And.intro rfl trivial)))
def g_M_getsHatOf_22 (F : Nat) (D : mx_D) : Nat → Int32 → Int32 → Option (Int32) := it (fun k22 => b_M_getsHatOf_22 F D k22) (fun _ _ => none)
set_option maxRecDepth 100000 in
set_option maxHeartbeats 4000000 in
theorem t_M_getsHatOf_22 (X : ev_X) (F : Nat) (d : Nat) (hd : 2 ≤ d + 1) (D : mx_D) (E : mx_E)  : ∀ (n : Nat) (l1 : Int32) (l2 : Int32) (v : Int32), g_M_getsHatOf_22 F D n l1 l2 = some v → ev X (d + 1) 284 (22, [some (.ref 116), some (.int l1), some (.int l2)], [], D, E) (qR (some (.int v)) D E) := by
  intro n
  induction n with
  | zero => intro l1 l2 v h; cases h
  | succ n ih => intro l1 l2 v h; exact tb_M_getsHatOf_22 X F d hd D E (g_M_getsHatOf_22 F D n) ih l1 l2 v h
def g_M_getsHatOf (F : Nat) (D : mx_D) (a1 : Int32) : Option (Int32) := (Option.bind (g_M_sits D a1) (fun r1 => (if r1 = 0 then (some (-1 : Int32)) else (Option.bind (g_M_of D a1 (nI 5)) (fun r2 => (if r2 = (-1 : Int32) then (some (-1 : Int32)) else (g_M_getsHatOf_22 F D F a1 (nI 0))))))))
set_option maxRecDepth 100000 in
set_option maxHeartbeats 4000000 in
theorem t_M_getsHatOf (X : ev_X) (F : Nat) (d : Nat) (hd : 2 ≤ d + 1) (D : mx_D) (E : mx_E) (a1 : Int32) (v : Int32) (h : g_M_getsHatOf F D a1 = some v) : ev X (d + 1) 284 (0, [some (.ref 116), some (.int a1), none], [], D, E) (qR (some (.int v)) D E) := by
  have hq : kq_m 284 = some kq_q284 := rfl
  unfold g_M_getsHatOf at h
  refine gv_n hq 2 (S' := (2, [some (.ref 116), some (.int a1), none], [.int a1, .ref 116], D, E)) rfl ?_
  obtain ⟨r1, h1, h⟩ := Option.bind_eq_some_iff.mp h
  refine gv_d hq rfl rfl rfl rfl rfl (gv_dd (by omega) (t_M_sits X (d - 1) (by omega) D E _ _ h1)) (S' := (5, [some (.ref 116), some (.int a1), none], [.int r1], D, E)) rfl ?_
  refine gv_b hq rfl h 18 8 rfl rfl rfl (fun h => ?_) (fun h => ?_)
  · refine gv_n hq 1 (S' := (19, [some (.ref 116), some (.int a1), none], [.int (-1 : Int32)], D, E)) rfl ?_
    cases h
    exact ev_ret hq rfl rfl ⟨rfl, rfl, rfl⟩
  · refine gv_n hq 3 (S' := (11, [some (.ref 116), some (.int a1), none], [.int (nI 5), .int a1, .ref 116], D, E)) rfl ?_
    obtain ⟨r2, h1, h⟩ := Option.bind_eq_some_iff.mp h
    refine gv_d hq rfl rfl rfl rfl rfl ((t_M_of X d D E _ _ _ h1)) (S' := (14, [some (.ref 116), some (.int a1), none], [.int r2], D, E)) rfl ?_
    refine gv_n hq 1 (S' := (15, [some (.ref 116), some (.int a1), none], [.int (-1 : Int32), .int r2], D, E)) rfl ?_
    refine gv_b hq rfl h 18 20 rfl rfl rfl (fun h => ?_) (fun h => ?_)
    · refine gv_n hq 1 (S' := (19, [some (.ref 116), some (.int a1), none], [.int (-1 : Int32)], D, E)) rfl ?_
      cases h
      exact ev_ret hq rfl rfl ⟨rfl, rfl, rfl⟩
    · refine gv_n hq 2 (S' := (22, [some (.ref 116), some (.int a1), some (.int (nI 0))], [], D, E)) rfl ?_
      exact gv_w (t_M_getsHatOf_22 X F d hd D E F _ _ _ h) (And.intro rfl (And.intro rfl (And.intro rfl trivial)))
def b_M_rings_120 (F : Nat) (k46 : Int32 → Int32 → Int32 → Int32 → Int32 → mx_D → Option (Int32 × mx_D)) (l2 : Int32) (l3 : Int32) (l4 : Int32) (l5 : Int32) (l6 : Int32) (l7 : Int32) (l8 : Int32) (l9 : Int32) (D : mx_D) : Option (Int32 × mx_D) := (if l9 = l6 then (if l7 < (nI 2) then (k46 l2 l3 l4 l5 (l6 + (nI 1)) D) else (if (l5 &&& l8) = 0 then (k46 l2 (l3 + (nI 1)) (imx l4 l7) (l5 ||| l8) (l6 + (nI 1)) D) else (k46 l2 l3 l4 l5 (l6 + (nI 1)) D))) else (k46 l2 l3 l4 l5 (l6 + (nI 1)) D))
set_option maxRecDepth 100000 in
set_option maxHeartbeats 4000000 in
theorem tb_M_rings_120 (X : ev_X) (F : Nat) (d : Nat) (hd : 8 ≤ d + 1) (E : mx_E) (k46 : Int32 → Int32 → Int32 → Int32 → Int32 → mx_D → Option (Int32 × mx_D)) (K46 : ∀ (l2 : Int32) (l3 : Int32) (l4 : Int32) (l5 : Int32) (l6 : Int32) (D : mx_D) (v : Int32 × mx_D), k46 l2 l3 l4 l5 l6 D = some v → ev X (d + 1) 283 (46, [some (.ref 116), none, some (.int l2), some (.int l3), some (.int l4), some (.int l5), some (.int l6), none, none, none], [], D, E) (qR (some (.int v.1)) v.2 E)) (l2 : Int32) (l3 : Int32) (l4 : Int32) (l5 : Int32) (l6 : Int32) (l7 : Int32) (l8 : Int32) (l9 : Int32) (D : mx_D) (v : Int32 × mx_D) (h : b_M_rings_120 F k46 l2 l3 l4 l5 l6 l7 l8 l9 D = some v) : ev X (d + 1) 283 (120, [some (.ref 116), none, some (.int l2), some (.int l3), some (.int l4), some (.int l5), some (.int l6), some (.int l7), some (.int l8), some (.int l9)], [], D, E) (qR (some (.int v.1)) v.2 E) := by
  have hq : kq_m 283 = some kq_q283 := rfl
  unfold b_M_rings_120 at h
  refine gv_n hq 2 (S' := (124, [some (.ref 116), none, some (.int l2), some (.int l3), some (.int l4), some (.int l5), some (.int l6), some (.int l7), some (.int l8), some (.int l9)], [.int l6, .int l9], D, E)) rfl ?_
  refine gv_b hq rfl h 127 163 rfl rfl rfl (fun h => ?_) (fun h => ?_)
  · refine gv_n hq 2 (S' := (130, [some (.ref 116), none, some (.int l2), some (.int l3), some (.int l4), some (.int l5), some (.int l6), some (.int l7), some (.int l8), some (.int l9)], [.int (nI 2), .int l7], D, E)) rfl ?_
    refine gv_b hq rfl h 163 133 rfl rfl rfl (fun h => ?_) (fun h => ?_)
    · refine gv_n hq 2 (S' := (46, [some (.ref 116), none, some (.int l2), some (.int l3), some (.int l4), some (.int l5), some (.int (l6 + (nI 1))), some (.int l7), some (.int l8), some (.int l9)], [], D, E)) rfl ?_
      exact gv_w (K46 _ _ _ _ _ _ _ h) (And.intro rfl (And.intro rfl (And.intro rfl (And.intro rfl (And.intro rfl (And.intro rfl trivial))))))
    · refine gv_n hq 3 (S' := (138, [some (.ref 116), none, some (.int l2), some (.int l3), some (.int l4), some (.int l5), some (.int l6), some (.int l7), some (.int l8), some (.int l9)], [.int (l5 &&& l8)], D, E)) rfl ?_
      refine gv_b hq rfl h 144 141 rfl rfl rfl (fun h => ?_) (fun h => ?_)
      · refine gv_n hq 11 (S' := (46, [some (.ref 116), none, some (.int l2), some (.int (l3 + (nI 1))), some (.int (imx l4 l7)), some (.int (l5 ||| l8)), some (.int (l6 + (nI 1))), some (.int l7), some (.int l8), some (.int l9)], [], D, E)) rfl ?_
        exact gv_w (K46 _ _ _ _ _ _ _ h) (And.intro rfl (And.intro rfl (And.intro rfl (And.intro rfl (And.intro rfl (And.intro rfl trivial))))))
      · refine gv_n hq 3 (S' := (46, [some (.ref 116), none, some (.int l2), some (.int l3), some (.int l4), some (.int l5), some (.int (l6 + (nI 1))), some (.int l7), some (.int l8), some (.int l9)], [], D, E)) rfl ?_
        exact gv_w (K46 _ _ _ _ _ _ _ h) (And.intro rfl (And.intro rfl (And.intro rfl (And.intro rfl (And.intro rfl (And.intro rfl trivial))))))
  · refine gv_n hq 2 (S' := (46, [some (.ref 116), none, some (.int l2), some (.int l3), some (.int l4), some (.int l5), some (.int (l6 + (nI 1))), some (.int l7), some (.int l8), some (.int l9)], [], D, E)) rfl ?_
    exact gv_w (K46 _ _ _ _ _ _ _ h) (And.intro rfl (And.intro rfl (And.intro rfl (And.intro rfl (And.intro rfl (And.intro rfl trivial))))))
def b_M_rings_74 (F : Nat) (k46 : Int32 → Int32 → Int32 → Int32 → Int32 → mx_D → Option (Int32 × mx_D)) (k74 : Int32 → Int32 → Int32 → Int32 → Int32 → Int32 → Int32 → Int32 → mx_D → Option (Int32 × mx_D)) (l2 : Int32) (l3 : Int32) (l4 : Int32) (l5 : Int32) (l6 : Int32) (l7 : Int32) (l8 : Int32) (l9 : Int32) (D : mx_D) : Option (Int32 × mx_D) := (if l9 = (-1 : Int32) then (b_M_rings_120 F k46 l2 l3 l4 l5 l6 l7 l8 l9 D) else (if l9 = l6 then (b_M_rings_120 F k46 l2 l3 l4 l5 l6 l7 l8 l9 D) else (if ((l8 >>> (l9 &&& 31)) &&& (nI 1)) = 0 then (Option.bind (g_M_getsHatOf F D l9) (fun r3 => (k74 l2 l3 l4 l5 l6 (l7 + (nI 1)) (l8 ||| ((nI 1) <<< (l9 &&& 31))) r3 D))) else (b_M_rings_120 F k46 l2 l3 l4 l5 l6 l7 l8 l9 D))))
set_option maxRecDepth 100000 in
set_option maxHeartbeats 4000000 in
theorem tb_M_rings_74 (X : ev_X) (F : Nat) (d : Nat) (hd : 8 ≤ d + 1) (E : mx_E) (k46 : Int32 → Int32 → Int32 → Int32 → Int32 → mx_D → Option (Int32 × mx_D)) (k74 : Int32 → Int32 → Int32 → Int32 → Int32 → Int32 → Int32 → Int32 → mx_D → Option (Int32 × mx_D)) (K46 : ∀ (l2 : Int32) (l3 : Int32) (l4 : Int32) (l5 : Int32) (l6 : Int32) (D : mx_D) (v : Int32 × mx_D), k46 l2 l3 l4 l5 l6 D = some v → ev X (d + 1) 283 (46, [some (.ref 116), none, some (.int l2), some (.int l3), some (.int l4), some (.int l5), some (.int l6), none, none, none], [], D, E) (qR (some (.int v.1)) v.2 E)) (K74 : ∀ (l2 : Int32) (l3 : Int32) (l4 : Int32) (l5 : Int32) (l6 : Int32) (l7 : Int32) (l8 : Int32) (l9 : Int32) (D : mx_D) (v : Int32 × mx_D), k74 l2 l3 l4 l5 l6 l7 l8 l9 D = some v → ev X (d + 1) 283 (74, [some (.ref 116), none, some (.int l2), some (.int l3), some (.int l4), some (.int l5), some (.int l6), some (.int l7), some (.int l8), some (.int l9)], [], D, E) (qR (some (.int v.1)) v.2 E)) (l2 : Int32) (l3 : Int32) (l4 : Int32) (l5 : Int32) (l6 : Int32) (l7 : Int32) (l8 : Int32) (l9 : Int32) (D : mx_D) (v : Int32 × mx_D) (h : b_M_rings_74 F k46 k74 l2 l3 l4 l5 l6 l7 l8 l9 D = some v) : ev X (d + 1) 283 (74, [some (.ref 116), none, some (.int l2), some (.int l3), some (.int l4), some (.int l5), some (.int l6), some (.int l7), some (.int l8), some (.int l9)], [], D, E) (qR (some (.int v.1)) v.2 E) := by
  have hq : kq_m 283 = some kq_q283 := rfl
  unfold b_M_rings_74 at h
  refine gv_n hq 2 (S' := (77, [some (.ref 116), none, some (.int l2), some (.int l3), some (.int l4), some (.int l5), some (.int l6), some (.int l7), some (.int l8), some (.int l9)], [.int (-1 : Int32), .int l9], D, E)) rfl ?_
  refine gv_b hq rfl h 120 80 rfl rfl rfl (fun h => ?_) (fun h => ?_)
  · exact gv_w (tb_M_rings_120 X F d hd E k46 K46 _ _ _ _ _ _ _ _ _ _ h) (And.intro rfl (And.intro rfl (And.intro rfl (And.intro rfl (And.intro rfl (And.intro rfl (And.intro rfl (And.intro rfl (And.intro rfl trivial)))))))))
  · refine gv_n hq 2 (S' := (84, [some (.ref 116), none, some (.int l2), some (.int l3), some (.int l4), some (.int l5), some (.int l6), some (.int l7), some (.int l8), some (.int l9)], [.int l6, .int l9], D, E)) rfl ?_
    refine gv_b hq rfl h 120 87 rfl rfl rfl (fun h => ?_) (fun h => ?_)
    · exact gv_w (tb_M_rings_120 X F d hd E k46 K46 _ _ _ _ _ _ _ _ _ _ h) (And.intro rfl (And.intro rfl (And.intro rfl (And.intro rfl (And.intro rfl (And.intro rfl (And.intro rfl (And.intro rfl (And.intro rfl trivial)))))))))
    · refine gv_n hq 5 (S' := (94, [some (.ref 116), none, some (.int l2), some (.int l3), some (.int l4), some (.int l5), some (.int l6), some (.int l7), some (.int l8), some (.int l9)], [.int ((l8 >>> (l9 &&& 31)) &&& (nI 1))], D, E)) rfl ?_
      refine gv_b hq rfl h 97 120 rfl rfl rfl (fun h => ?_) (fun h => ?_)
      · refine gv_n hq 9 (S' := (112, [some (.ref 116), none, some (.int l2), some (.int l3), some (.int l4), some (.int l5), some (.int l6), some (.int (l7 + (nI 1))), some (.int (l8 ||| ((nI 1) <<< (l9 &&& 31)))), some (.int l9)], [.int l9, .ref 116], D, E)) rfl ?_
        obtain ⟨r3, h1, h⟩ := Option.bind_eq_some_iff.mp h
        refine gv_d hq rfl rfl rfl rfl rfl (gv_dd (by omega) (t_M_getsHatOf X F (d - 1) (by omega) D E _ _ h1)) (S' := (115, [some (.ref 116), none, some (.int l2), some (.int l3), some (.int l4), some (.int l5), some (.int l6), some (.int (l7 + (nI 1))), some (.int (l8 ||| ((nI 1) <<< (l9 &&& 31)))), some (.int l9)], [.int r3], D, E)) rfl ?_
        refine gv_n hq 2 (S' := (74, [some (.ref 116), none, some (.int l2), some (.int l3), some (.int l4), some (.int l5), some (.int l6), some (.int (l7 + (nI 1))), some (.int (l8 ||| ((nI 1) <<< (l9 &&& 31)))), some (.int r3)], [], D, E)) rfl ?_
        exact gv_w (K74 _ _ _ _ _ _ _ _ _ _ h) (And.intro rfl (And.intro rfl (And.intro rfl (And.intro rfl (And.intro rfl (And.intro rfl (And.intro rfl (And.intro rfl (And.intro rfl trivial)))))))))
      · exact gv_w (tb_M_rings_120 X F d hd E k46 K46 _ _ _ _ _ _ _ _ _ _ h) (And.intro rfl (And.intro rfl (And.intro rfl (And.intro rfl (And.intro rfl (And.intro rfl (And.intro rfl (And.intro rfl (And.intro rfl trivial)))))))))
def g_M_rings_74 (F : Nat) (k46 : Int32 → Int32 → Int32 → Int32 → Int32 → mx_D → Option (Int32 × mx_D)) : Nat → Int32 → Int32 → Int32 → Int32 → Int32 → Int32 → Int32 → Int32 → mx_D → Option (Int32 × mx_D) := it (fun k74 => b_M_rings_74 F k46 k74) (fun _ _ _ _ _ _ _ _ _ => none)
set_option maxRecDepth 100000 in
set_option maxHeartbeats 4000000 in
theorem t_M_rings_74 (X : ev_X) (F : Nat) (d : Nat) (hd : 8 ≤ d + 1) (E : mx_E) (k46 : Int32 → Int32 → Int32 → Int32 → Int32 → mx_D → Option (Int32 × mx_D)) (K46 : ∀ (l2 : Int32) (l3 : Int32) (l4 : Int32) (l5 : Int32) (l6 : Int32) (D : mx_D) (v : Int32 × mx_D), k46 l2 l3 l4 l5 l6 D = some v → ev X (d + 1) 283 (46, [some (.ref 116), none, some (.int l2), some (.int l3), some (.int l4), some (.int l5), some (.int l6), none, none, none], [], D, E) (qR (some (.int v.1)) v.2 E)) : ∀ (n : Nat) (l2 : Int32) (l3 : Int32) (l4 : Int32) (l5 : Int32) (l6 : Int32) (l7 : Int32) (l8 : Int32) (l9 : Int32) (D : mx_D) (v : Int32 × mx_D), g_M_rings_74 F k46 n l2 l3 l4 l5 l6 l7 l8 l9 D = some v → ev X (d + 1) 283 (74, [some (.ref 116), none, some (.int l2), some (.int l3), some (.int l4), some (.int l5), some (.int l6), some (.int l7), some (.int l8), some (.int l9)], [], D, E) (qR (some (.int v.1)) v.2 E) := by
  intro n
  induction n with
  | zero => intro l2 l3 l4 l5 l6 l7 l8 l9 D v h; cases h
  | succ n ih => intro l2 l3 l4 l5 l6 l7 l8 l9 D v h; exact tb_M_rings_74 X F d hd E k46 (g_M_rings_74 F k46 n) K46 ih l2 l3 l4 l5 l6 l7 l8 l9 D v h
def b_M_rings_46 (F : Nat) (k46 : Int32 → Int32 → Int32 → Int32 → Int32 → mx_D → Option (Int32 × mx_D)) (l2 : Int32) (l3 : Int32) (l4 : Int32) (l5 : Int32) (l6 : Int32) (D : mx_D) : Option (Int32 × mx_D) := (if (D 117 4) ≤ l6 then (if l2 = 0 then (some (l3, D)) else (some (l4, D))) else (Option.bind (g_M_getsHatOf F D l6) (fun r2 => (g_M_rings_74 F k46 F l2 l3 l4 l5 l6 (nI 1) ((nI 1) <<< (l6 &&& 31)) r2 D))))
set_option maxRecDepth 100000 in
set_option maxHeartbeats 4000000 in
theorem tb_M_rings_46 (X : ev_X) (F : Nat) (d : Nat) (hd : 8 ≤ d + 1) (E : mx_E) (k46 : Int32 → Int32 → Int32 → Int32 → Int32 → mx_D → Option (Int32 × mx_D)) (K46 : ∀ (l2 : Int32) (l3 : Int32) (l4 : Int32) (l5 : Int32) (l6 : Int32) (D : mx_D) (v : Int32 × mx_D), k46 l2 l3 l4 l5 l6 D = some v → ev X (d + 1) 283 (46, [some (.ref 116), none, some (.int l2), some (.int l3), some (.int l4), some (.int l5), some (.int l6), none, none, none], [], D, E) (qR (some (.int v.1)) v.2 E)) (l2 : Int32) (l3 : Int32) (l4 : Int32) (l5 : Int32) (l6 : Int32) (D : mx_D) (v : Int32 × mx_D) (h : b_M_rings_46 F k46 l2 l3 l4 l5 l6 D = some v) : ev X (d + 1) 283 (46, [some (.ref 116), none, some (.int l2), some (.int l3), some (.int l4), some (.int l5), some (.int l6), none, none, none], [], D, E) (qR (some (.int v.1)) v.2 E) := by
  have hq : kq_m 283 = some kq_q283 := rfl
  unfold b_M_rings_46 at h
  refine gv_n hq 5 (S' := (54, [some (.ref 116), none, some (.int l2), some (.int l3), some (.int l4), some (.int l5), some (.int l6), none, none, none], [.int (D 117 4), .int l6], D, E)) rfl ?_
  refine gv_b hq rfl h 169 57 rfl rfl rfl (fun h => ?_) (fun h => ?_)
  · refine gv_n hq 1 (S' := (170, [some (.ref 116), none, some (.int l2), some (.int l3), some (.int l4), some (.int l5), some (.int l6), none, none, none], [.int l2], D, E)) rfl ?_
    refine gv_b hq rfl h 173 177 rfl rfl rfl (fun h => ?_) (fun h => ?_)
    · refine gv_n hq 2 (S' := (179, [some (.ref 116), none, some (.int l2), some (.int l3), some (.int l4), some (.int l5), some (.int l6), none, none, none], [.int l3], D, E)) rfl ?_
      cases h
      exact ev_ret hq rfl rfl ⟨rfl, rfl, rfl⟩
    · refine gv_n hq 1 (S' := (179, [some (.ref 116), none, some (.int l2), some (.int l3), some (.int l4), some (.int l5), some (.int l6), none, none, none], [.int l4], D, E)) rfl ?_
      cases h
      exact ev_ret hq rfl rfl ⟨rfl, rfl, rfl⟩
  · refine gv_n hq 8 (S' := (69, [some (.ref 116), none, some (.int l2), some (.int l3), some (.int l4), some (.int l5), some (.int l6), some (.int (nI 1)), some (.int ((nI 1) <<< (l6 &&& 31))), none], [.int l6, .ref 116], D, E)) rfl ?_
    obtain ⟨r2, h1, h⟩ := Option.bind_eq_some_iff.mp h
    refine gv_d hq rfl rfl rfl rfl rfl (gv_dd (by omega) (t_M_getsHatOf X F (d - 1) (by omega) D E _ _ h1)) (S' := (72, [some (.ref 116), none, some (.int l2), some (.int l3), some (.int l4), some (.int l5), some (.int l6), some (.int (nI 1)), some (.int ((nI 1) <<< (l6 &&& 31))), none], [.int r2], D, E)) rfl ?_
    refine gv_n hq 1 (S' := (74, [some (.ref 116), none, some (.int l2), some (.int l3), some (.int l4), some (.int l5), some (.int l6), some (.int (nI 1)), some (.int ((nI 1) <<< (l6 &&& 31))), some (.int r2)], [], D, E)) rfl ?_
    exact gv_w (t_M_rings_74 X F d hd E k46 K46 F _ _ _ _ _ _ _ _ _ _ h) (And.intro rfl (And.intro rfl (And.intro rfl (And.intro rfl (And.intro rfl (And.intro rfl (And.intro rfl (And.intro rfl (And.intro rfl trivial)))))))))
def g_M_rings_46 (F : Nat) : Nat → Int32 → Int32 → Int32 → Int32 → Int32 → mx_D → Option (Int32 × mx_D) := it (fun k46 => b_M_rings_46 F k46) (fun _ _ _ _ _ _ => none)
set_option maxRecDepth 100000 in
set_option maxHeartbeats 4000000 in
theorem t_M_rings_46 (X : ev_X) (F : Nat) (d : Nat) (hd : 8 ≤ d + 1) (E : mx_E)  : ∀ (n : Nat) (l2 : Int32) (l3 : Int32) (l4 : Int32) (l5 : Int32) (l6 : Int32) (D : mx_D) (v : Int32 × mx_D), g_M_rings_46 F n l2 l3 l4 l5 l6 D = some v → ev X (d + 1) 283 (46, [some (.ref 116), none, some (.int l2), some (.int l3), some (.int l4), some (.int l5), some (.int l6), none, none, none], [], D, E) (qR (some (.int v.1)) v.2 E) := by
  intro n
  induction n with
  | zero => intro l2 l3 l4 l5 l6 D v h; cases h
  | succ n ih => intro l2 l3 l4 l5 l6 D v h; exact tb_M_rings_46 X F d hd E (g_M_rings_46 F n) ih l2 l3 l4 l5 l6 D v h
def g_M_rings (F : Nat) (a1 : Int32) (a2 : Int32) (D : mx_D) : Option (Int32 × mx_D) := (if (g_M_isYear D a1) = 0 then (some ((-2 : Int32), D)) else (if (g_M_in ((a2).toInt64) (lN 0) (lN 1)) = 0 then (some ((-2 : Int32), D)) else (Option.bind (g_M_handAll F a1 D) (fun r1 => (if (r1 116 30) = 0 then (some ((-1 : Int32), r1)) else (g_M_rings_46 F F a2 (nI 0) (nI 0) (nI 0) (nI 0) r1))))))
set_option maxRecDepth 100000 in
set_option maxHeartbeats 4000000 in
theorem t_M_rings (X : ev_X) (F : Nat) (d : Nat) (hd : 8 ≤ d + 1) (E : mx_E) (a1 : Int32) (a2 : Int32) (D : mx_D) (v : Int32 × mx_D) (h : g_M_rings F a1 a2 D = some v) : ev X (d + 1) 283 (0, [some (.ref 116), some (.int a1), some (.int a2), none, none, none, none, none, none, none], [], D, E) (qR (some (.int v.1)) v.2 E) := by
  have hq : kq_m 283 = some kq_q283 := rfl
  unfold g_M_rings at h
  refine gv_n hq 2 (S' := (2, [some (.ref 116), some (.int a1), some (.int a2), none, none, none, none, none, none, none], [.int a1, .ref 116], D, E)) rfl ?_
  refine gv_d hq rfl rfl rfl rfl rfl (gv_dd (by omega) (t_M_isYear X (d - 1) (by omega) D E _ _ rfl)) (S' := (5, [some (.ref 116), some (.int a1), some (.int a2), none, none, none, none, none, none, none], [.int (g_M_isYear D a1)], D, E)) rfl ?_
  refine gv_b hq rfl h 18 8 rfl rfl rfl (fun h => ?_) (fun h => ?_)
  · refine gv_n hq 1 (S' := (20, [some (.ref 116), some (.int a1), some (.int a2), none, none, none, none, none, none, none], [.int (-2 : Int32)], D, E)) rfl ?_
    cases h
    exact ev_ret hq rfl rfl ⟨rfl, rfl, rfl⟩
  · refine gv_n hq 4 (S' := (12, [some (.ref 116), some (.int a1), some (.int a2), none, none, none, none, none, none, none], [.long (lN 1), .long (lN 0), .long ((a2).toInt64)], D, E)) rfl ?_
    refine gv_d hq rfl rfl rfl rfl rfl ((t_M_in X d D E _ _ _ _ rfl)) (S' := (15, [some (.ref 116), some (.int a1), some (.int a2), none, none, none, none, none, none, none], [.int (g_M_in ((a2).toInt64) (lN 0) (lN 1))], D, E)) rfl ?_
    refine gv_b hq rfl h 18 21 rfl rfl rfl (fun h => ?_) (fun h => ?_)
    · refine gv_n hq 1 (S' := (20, [some (.ref 116), some (.int a1), some (.int a2), none, none, none, none, none, none, none], [.int (-2 : Int32)], D, E)) rfl ?_
      cases h
      exact ev_ret hq rfl rfl ⟨rfl, rfl, rfl⟩
    · refine gv_n hq 2 (S' := (23, [some (.ref 116), some (.int a1), some (.int a2), none, none, none, none, none, none, none], [.int a1, .ref 116], D, E)) rfl ?_
      obtain ⟨r1, h1, h⟩ := Option.bind_eq_some_iff.mp h
      refine gv_d hq rfl rfl rfl rfl rfl (gv_dd (by omega) (t_M_handAll X F (d - 1) (by omega) E _ _ _ h1)) (S' := (26, [some (.ref 116), some (.int a1), some (.int a2), none, none, none, none, none, none, none], [], r1, E)) rfl ?_
      refine gv_n hq 2 (S' := (30, [some (.ref 116), some (.int a1), some (.int a2), none, none, none, none, none, none, none], [.int (r1 116 30)], r1, E)) rfl ?_
      refine gv_b hq rfl h 33 35 rfl rfl rfl (fun h => ?_) (fun h => ?_)
      · refine gv_n hq 1 (S' := (34, [some (.ref 116), some (.int a1), some (.int a2), none, none, none, none, none, none, none], [.int (-1 : Int32)], r1, E)) rfl ?_
        cases h
        exact ev_ret hq rfl rfl ⟨rfl, rfl, rfl⟩
      · refine gv_n hq 8 (S' := (46, [some (.ref 116), some (.int a1), some (.int a2), some (.int (nI 0)), some (.int (nI 0)), some (.int (nI 0)), some (.int (nI 0)), none, none, none], [], r1, E)) rfl ?_
        exact gv_w (t_M_rings_46 X F d hd E F _ _ _ _ _ _ _ h) (And.intro rfl (And.intro rfl (And.intro rfl (And.intro rfl (And.intro rfl (And.intro rfl trivial))))))
def b_X_bare_17 (F : Nat) (D : mx_D) (k17 : Int32 → Int32 → Option (Int32)) (l1 : Int32) (l2 : Int32) : Option (Int32) := (if (D 24 6) ≤ l2 then (some l1) else (Option.bind (g_Church_isSeated D l2) (fun r1 => (if r1 = 0 then (k17 l1 (l2 + (nI 1))) else (rk 8 l2 (if (D 30 (l2).toNatClampNeg) = (-1 : Int32) then (k17 (l1 ||| ((nI 1) <<< (l2 &&& 31))) (l2 + (nI 1))) else (k17 l1 (l2 + (nI 1)))))))))
set_option maxRecDepth 100000 in
set_option maxHeartbeats 4000000 in
theorem tb_X_bare_17 (X : ev_X) (F : Nat) (d : Nat) (hd : 2 ≤ d + 1) (D : mx_D) (E : mx_E) (k17 : Int32 → Int32 → Option (Int32)) (K17 : ∀ (l1 : Int32) (l2 : Int32) (v : Int32), k17 l1 l2 = some v → ev X (d + 1) 147 (17, [some (.ref 0), some (.int l1), some (.int l2)], [], D, E) (qR (some (.int v)) D E)) (l1 : Int32) (l2 : Int32) (v : Int32) (h : b_X_bare_17 F D k17 l1 l2 = some v) : ev X (d + 1) 147 (17, [some (.ref 0), some (.int l1), some (.int l2)], [], D, E) (qR (some (.int v)) D E) := by
  have hq : kq_m 147 = some kq_q147 := rfl
  unfold b_X_bare_17 at h
  refine gv_n hq 5 (S' := (28, [some (.ref 0), some (.int l1), some (.int l2)], [.int (D 24 6), .int l2], D, E)) rfl ?_
  refine gv_b hq rfl h 70 31 rfl rfl rfl (fun h => ?_) (fun h => ?_)
  · refine gv_n hq 1 (S' := (71, [some (.ref 0), some (.int l1), some (.int l2)], [.int l1], D, E)) rfl ?_
    cases h
    exact ev_ret hq rfl rfl ⟨rfl, rfl, rfl⟩
  · refine gv_n hq 3 (S' := (36, [some (.ref 0), some (.int l1), some (.int l2)], [.int l2, .ref 19], D, E)) rfl ?_
    obtain ⟨r1, h1, h⟩ := Option.bind_eq_some_iff.mp h
    refine gv_d hq rfl rfl rfl rfl rfl (gv_dd (by omega) (t_Church_isSeated X (d - 1) (by omega) D E _ _ h1)) (S' := (39, [some (.ref 0), some (.int l1), some (.int l2)], [.int r1], D, E)) rfl ?_
    refine gv_b hq rfl h 64 42 rfl rfl rfl (fun h => ?_) (fun h => ?_)
    · refine gv_n hq 2 (S' := (17, [some (.ref 0), some (.int l1), some (.int (l2 + (nI 1)))], [], D, E)) rfl ?_
      exact gv_w (K17 _ _ _ h) (And.intro rfl (And.intro rfl (And.intro rfl trivial)))
    · refine gv_n hq 5 (S' := (53, [some (.ref 0), some (.int l1), some (.int l2)], [.int l2, .ref 30], D, E)) rfl ?_
      refine gv_ia hq rfl rfl rfl h 54 rfl (fun h => ?_)
      refine gv_n hq 1 (S' := (55, [some (.ref 0), some (.int l1), some (.int l2)], [.int (-1 : Int32), .int (D 30 (l2).toNatClampNeg)], D, E)) rfl ?_
      refine gv_b hq rfl h 58 64 rfl rfl rfl (fun h => ?_) (fun h => ?_)
      · refine gv_n hq 8 (S' := (17, [some (.ref 0), some (.int (l1 ||| ((nI 1) <<< (l2 &&& 31)))), some (.int (l2 + (nI 1)))], [], D, E)) rfl ?_
        exact gv_w (K17 _ _ _ h) (And.intro rfl (And.intro rfl (And.intro rfl trivial)))
      · refine gv_n hq 2 (S' := (17, [some (.ref 0), some (.int l1), some (.int (l2 + (nI 1)))], [], D, E)) rfl ?_
        exact gv_w (K17 _ _ _ h) (And.intro rfl (And.intro rfl (And.intro rfl trivial)))
def g_X_bare_17 (F : Nat) (D : mx_D) : Nat → Int32 → Int32 → Option (Int32) := it (fun k17 => b_X_bare_17 F D k17) (fun _ _ => none)
set_option maxRecDepth 100000 in
set_option maxHeartbeats 4000000 in
theorem t_X_bare_17 (X : ev_X) (F : Nat) (d : Nat) (hd : 2 ≤ d + 1) (D : mx_D) (E : mx_E)  : ∀ (n : Nat) (l1 : Int32) (l2 : Int32) (v : Int32), g_X_bare_17 F D n l1 l2 = some v → ev X (d + 1) 147 (17, [some (.ref 0), some (.int l1), some (.int l2)], [], D, E) (qR (some (.int v)) D E) := by
  intro n
  induction n with
  | zero => intro l1 l2 v h; cases h
  | succ n ih => intro l1 l2 v h; exact tb_X_bare_17 X F d hd D E (g_X_bare_17 F D n) ih l1 l2 v h
def g_X_bare (F : Nat) (D : mx_D) : Option (Int32) := (if (g_Church_isThere D) = 0 then (some (-2 : Int32)) else (g_X_bare_17 F D F (nI 0) (nI 0)))
set_option maxRecDepth 100000 in
set_option maxHeartbeats 4000000 in
theorem t_X_bare (X : ev_X) (F : Nat) (d : Nat) (hd : 2 ≤ d + 1) (D : mx_D) (E : mx_E) (v : Int32) (h : g_X_bare F D = some v) : ev X (d + 1) 147 (0, [some (.ref 0), none, none], [], D, E) (qR (some (.int v)) D E) := by
  have hq : kq_m 147 = some kq_q147 := rfl
  unfold g_X_bare at h
  refine gv_n hq 2 (S' := (4, [some (.ref 0), none, none], [.ref 19], D, E)) rfl ?_
  refine gv_d hq rfl rfl rfl rfl rfl ((t_Church_isThere X d D E _ rfl)) (S' := (7, [some (.ref 0), none, none], [.int (g_Church_isThere D)], D, E)) rfl ?_
  refine gv_b hq rfl h 10 13 rfl rfl rfl (fun h => ?_) (fun h => ?_)
  · refine gv_n hq 1 (S' := (12, [some (.ref 0), none, none], [.int (-2 : Int32)], D, E)) rfl ?_
    cases h
    exact ev_ret hq rfl rfl ⟨rfl, rfl, rfl⟩
  · refine gv_n hq 4 (S' := (17, [some (.ref 0), some (.int (nI 0)), some (.int (nI 0))], [], D, E)) rfl ?_
    exact gv_w (t_X_bare_17 X F d hd D E F _ _ _ h) (And.intro rfl (And.intro rfl (And.intro rfl trivial)))
def b_M_bare_14 (F : Nat) (D : mx_D) (k14 : Int32 → Int32 → Option (Int32)) (l1 : Int32) (l2 : Int32) : Option (Int32) := (if (D 117 4) ≤ l2 then (some l1) else (Option.bind (g_M_sits D l2) (fun r1 => (if r1 = 0 then (k14 (l1 ||| (nI 0)) (l2 + (nI 1))) else (Option.bind (g_M_of D l2 (nI 5)) (fun r2 => (if r2 = (-1 : Int32) then (k14 (l1 ||| ((nI 1) <<< (l2 &&& 31))) (l2 + (nI 1))) else (k14 (l1 ||| (nI 0)) (l2 + (nI 1))))))))))
set_option maxRecDepth 100000 in
set_option maxHeartbeats 4000000 in
theorem tb_M_bare_14 (X : ev_X) (F : Nat) (d : Nat) (hd : 2 ≤ d + 1) (D : mx_D) (E : mx_E) (k14 : Int32 → Int32 → Option (Int32)) (K14 : ∀ (l1 : Int32) (l2 : Int32) (v : Int32), k14 l1 l2 = some v → ev X (d + 1) 285 (14, [some (.ref 116), some (.int l1), some (.int l2)], [], D, E) (qR (some (.int v)) D E)) (l1 : Int32) (l2 : Int32) (v : Int32) (h : b_M_bare_14 F D k14 l1 l2 = some v) : ev X (d + 1) 285 (14, [some (.ref 116), some (.int l1), some (.int l2)], [], D, E) (qR (some (.int v)) D E) := by
  have hq : kq_m 285 = some kq_q285 := rfl
  unfold b_M_bare_14 at h
  refine gv_n hq 5 (S' := (21, [some (.ref 116), some (.int l1), some (.int l2)], [.int (D 117 4), .int l2], D, E)) rfl ?_
  refine gv_b hq rfl h 58 24 rfl rfl rfl (fun h => ?_) (fun h => ?_)
  · refine gv_n hq 1 (S' := (59, [some (.ref 116), some (.int l1), some (.int l2)], [.int l1], D, E)) rfl ?_
    cases h
    exact ev_ret hq rfl rfl ⟨rfl, rfl, rfl⟩
  · refine gv_n hq 3 (S' := (27, [some (.ref 116), some (.int l1), some (.int l2)], [.int l2, .ref 116, .int l1], D, E)) rfl ?_
    obtain ⟨r1, h1, h⟩ := Option.bind_eq_some_iff.mp h
    refine gv_d hq rfl rfl rfl rfl rfl (gv_dd (by omega) (t_M_sits X (d - 1) (by omega) D E _ _ h1)) (S' := (30, [some (.ref 116), some (.int l1), some (.int l2)], [.int r1, .int l1], D, E)) rfl ?_
    refine gv_b hq rfl h 49 33 rfl rfl rfl (fun h => ?_) (fun h => ?_)
    · refine gv_n hq 5 (S' := (14, [some (.ref 116), some (.int (l1 ||| (nI 0))), some (.int (l2 + (nI 1)))], [], D, E)) rfl ?_
      exact gv_w (K14 _ _ _ h) (And.intro rfl (And.intro rfl (And.intro rfl trivial)))
    · refine gv_n hq 3 (S' := (36, [some (.ref 116), some (.int l1), some (.int l2)], [.int (nI 5), .int l2, .ref 116, .int l1], D, E)) rfl ?_
      obtain ⟨r2, h1, h⟩ := Option.bind_eq_some_iff.mp h
      refine gv_d hq rfl rfl rfl rfl rfl ((t_M_of X d D E _ _ _ h1)) (S' := (39, [some (.ref 116), some (.int l1), some (.int l2)], [.int r2, .int l1], D, E)) rfl ?_
      refine gv_n hq 1 (S' := (40, [some (.ref 116), some (.int l1), some (.int l2)], [.int (-1 : Int32), .int r2, .int l1], D, E)) rfl ?_
      refine gv_b hq rfl h 43 49 rfl rfl rfl (fun h => ?_) (fun h => ?_)
      · refine gv_n hq 8 (S' := (14, [some (.ref 116), some (.int (l1 ||| ((nI 1) <<< (l2 &&& 31)))), some (.int (l2 + (nI 1)))], [], D, E)) rfl ?_
        exact gv_w (K14 _ _ _ h) (And.intro rfl (And.intro rfl (And.intro rfl trivial)))
      · refine gv_n hq 5 (S' := (14, [some (.ref 116), some (.int (l1 ||| (nI 0))), some (.int (l2 + (nI 1)))], [], D, E)) rfl ?_
        exact gv_w (K14 _ _ _ h) (And.intro rfl (And.intro rfl (And.intro rfl trivial)))
def g_M_bare_14 (F : Nat) (D : mx_D) : Nat → Int32 → Int32 → Option (Int32) := it (fun k14 => b_M_bare_14 F D k14) (fun _ _ => none)
set_option maxRecDepth 100000 in
set_option maxHeartbeats 4000000 in
theorem t_M_bare_14 (X : ev_X) (F : Nat) (d : Nat) (hd : 2 ≤ d + 1) (D : mx_D) (E : mx_E)  : ∀ (n : Nat) (l1 : Int32) (l2 : Int32) (v : Int32), g_M_bare_14 F D n l1 l2 = some v → ev X (d + 1) 285 (14, [some (.ref 116), some (.int l1), some (.int l2)], [], D, E) (qR (some (.int v)) D E) := by
  intro n
  induction n with
  | zero => intro l1 l2 v h; cases h
  | succ n ih => intro l1 l2 v h; exact tb_M_bare_14 X F d hd D E (g_M_bare_14 F D n) ih l1 l2 v h
def g_M_bare (F : Nat) (D : mx_D) : Option (Int32) := (if (g_M_isChurch D) = 0 then (some (-2 : Int32)) else (g_M_bare_14 F D F (nI 0) (nI 0)))
set_option maxRecDepth 100000 in
set_option maxHeartbeats 4000000 in
theorem t_M_bare (X : ev_X) (F : Nat) (d : Nat) (hd : 2 ≤ d + 1) (D : mx_D) (E : mx_E) (v : Int32) (h : g_M_bare F D = some v) : ev X (d + 1) 285 (0, [some (.ref 116), none, none], [], D, E) (qR (some (.int v)) D E) := by
  have hq : kq_m 285 = some kq_q285 := rfl
  unfold g_M_bare at h
  refine gv_n hq 1 (S' := (1, [some (.ref 116), none, none], [.ref 116], D, E)) rfl ?_
  refine gv_d hq rfl rfl rfl rfl rfl ((t_M_isChurch X d D E _ rfl)) (S' := (4, [some (.ref 116), none, none], [.int (g_M_isChurch D)], D, E)) rfl ?_
  refine gv_b hq rfl h 7 10 rfl rfl rfl (fun h => ?_) (fun h => ?_)
  · refine gv_n hq 1 (S' := (9, [some (.ref 116), none, none], [.int (-2 : Int32)], D, E)) rfl ?_
    cases h
    exact ev_ret hq rfl rfl ⟨rfl, rfl, rfl⟩
  · refine gv_n hq 4 (S' := (14, [some (.ref 116), some (.int (nI 0)), some (.int (nI 0))], [], D, E)) rfl ?_
    exact gv_w (t_M_bare_14 X F d hd D E F _ _ _ h) (And.intro rfl (And.intro rfl (And.intro rfl trivial)))
def b_Groups_sortIn_51 (F : Nat) (l1 : Int32) (l2 : Int32) (D : mx_D) : Option (mx_D) := (rk 8 l2 (some (sD (sD D 44 (l2).toNatClampNeg l1) 43 1 (((sD D 44 (l2).toNatClampNeg l1) 43 1) + (nI 1)))))
set_option maxRecDepth 100000 in
set_option maxHeartbeats 4000000 in
theorem tb_Groups_sortIn_51 (X : ev_X) (F : Nat) (d : Nat) (E : mx_E)  (l1 : Int32) (l2 : Int32) (D : mx_D) (v : mx_D) (h : b_Groups_sortIn_51 F l1 l2 D = some v) : ev X d 34 (51, [some (.ref 43), some (.int l1), some (.int l2)], [], D, E) (qR none v E) := by
  have hq : kq_m 34 = some kq_q34 := rfl
  unfold b_Groups_sortIn_51 at h
  refine gv_n hq 4 (S' := (57, [some (.ref 43), some (.int l1), some (.int l2)], [.int l1, .int l2, .ref 44], D, E)) rfl ?_
  refine gv_is hq rfl rfl h 58 rfl (fun h => ?_)
  refine gv_n hq 6 (S' := (68, [some (.ref 43), some (.int l1), some (.int l2)], [], (sD (sD D 44 (l2).toNatClampNeg l1) 43 1 (((sD D 44 (l2).toNatClampNeg l1) 43 1) + (nI 1))), E)) rfl ?_
  cases h
  exact ev_ret hq rfl rfl ⟨rfl, rfl, rfl⟩
def b_Groups_sortIn_15 (F : Nat) (k15 : Int32 → Int32 → mx_D → Option (mx_D)) (l1 : Int32) (l2 : Int32) (D : mx_D) : Option (mx_D) := (if l2 ≤ 0 then (b_Groups_sortIn_51 F l1 l2 D) else (rk 8 (l2 - (nI 1)) (if (D 44 ((l2 - (nI 1))).toNatClampNeg) ≤ l1 then (b_Groups_sortIn_51 F l1 l2 D) else (rk 8 (l2 - (nI 1)) (rk 8 l2 (k15 l1 (l2 + (-1 : Int32)) (sD D 44 (l2).toNatClampNeg (D 44 ((l2 - (nI 1))).toNatClampNeg))))))))
set_option maxRecDepth 100000 in
set_option maxHeartbeats 4000000 in
theorem tb_Groups_sortIn_15 (X : ev_X) (F : Nat) (d : Nat) (E : mx_E) (k15 : Int32 → Int32 → mx_D → Option (mx_D)) (K15 : ∀ (l1 : Int32) (l2 : Int32) (D : mx_D) (v : mx_D), k15 l1 l2 D = some v → ev X d 34 (15, [some (.ref 43), some (.int l1), some (.int l2)], [], D, E) (qR none v E)) (l1 : Int32) (l2 : Int32) (D : mx_D) (v : mx_D) (h : b_Groups_sortIn_15 F k15 l1 l2 D = some v) : ev X d 34 (15, [some (.ref 43), some (.int l1), some (.int l2)], [], D, E) (qR none v E) := by
  have hq : kq_m 34 = some kq_q34 := rfl
  unfold b_Groups_sortIn_15 at h
  refine gv_n hq 1 (S' := (16, [some (.ref 43), some (.int l1), some (.int l2)], [.int l2], D, E)) rfl ?_
  refine gv_b hq rfl h 51 19 rfl rfl rfl (fun h => ?_) (fun h => ?_)
  · exact gv_w (tb_Groups_sortIn_51 X F d E _ _ _ _ h) (And.intro rfl (And.intro rfl (And.intro rfl trivial)))
  · refine gv_n hq 5 (S' := (26, [some (.ref 43), some (.int l1), some (.int l2)], [.int (l2 - (nI 1)), .ref 44], D, E)) rfl ?_
    refine gv_ia hq rfl rfl rfl h 27 rfl (fun h => ?_)
    refine gv_n hq 1 (S' := (28, [some (.ref 43), some (.int l1), some (.int l2)], [.int l1, .int (D 44 ((l2 - (nI 1))).toNatClampNeg)], D, E)) rfl ?_
    refine gv_b hq rfl h 51 31 rfl rfl rfl (fun h => ?_) (fun h => ?_)
    · exact gv_w (tb_Groups_sortIn_51 X F d E _ _ _ _ h) (And.intro rfl (And.intro rfl (And.intro rfl trivial)))
    · refine gv_n hq 8 (S' := (43, [some (.ref 43), some (.int l1), some (.int l2)], [.int (l2 - (nI 1)), .ref 44, .int l2, .ref 44], D, E)) rfl ?_
      refine gv_ia hq rfl rfl rfl h 44 rfl (fun h => ?_)
      refine gv_is hq rfl rfl h 45 rfl (fun h => ?_)
      refine gv_n hq 2 (S' := (15, [some (.ref 43), some (.int l1), some (.int (l2 + (-1 : Int32)))], [], (sD D 44 (l2).toNatClampNeg (D 44 ((l2 - (nI 1))).toNatClampNeg)), E)) rfl ?_
      exact gv_w (K15 _ _ _ _ h) (And.intro rfl (And.intro rfl (And.intro rfl trivial)))
def g_Groups_sortIn_15 (F : Nat) : Nat → Int32 → Int32 → mx_D → Option (mx_D) := it (fun k15 => b_Groups_sortIn_15 F k15) (fun _ _ _ => none)
set_option maxRecDepth 100000 in
set_option maxHeartbeats 4000000 in
theorem t_Groups_sortIn_15 (X : ev_X) (F : Nat) (d : Nat) (E : mx_E)  : ∀ (n : Nat) (l1 : Int32) (l2 : Int32) (D : mx_D) (v : mx_D), g_Groups_sortIn_15 F n l1 l2 D = some v → ev X d 34 (15, [some (.ref 43), some (.int l1), some (.int l2)], [], D, E) (qR none v E) := by
  intro n
  induction n with
  | zero => intro l1 l2 D v h; cases h
  | succ n ih => intro l1 l2 D v h; exact tb_Groups_sortIn_15 X F d E (g_Groups_sortIn_15 F n) ih l1 l2 D v h
def g_Groups_sortIn (F : Nat) (a1 : Int32) (D : mx_D) : Option (mx_D) := (if (D 43 1) < (nI 8) then (g_Groups_sortIn_15 F F a1 (D 43 1) D) else (some D))
set_option maxRecDepth 100000 in
set_option maxHeartbeats 4000000 in
theorem t_Groups_sortIn (X : ev_X) (F : Nat) (d : Nat) (E : mx_E) (a1 : Int32) (D : mx_D) (v : mx_D) (h : g_Groups_sortIn F a1 D = some v) : ev X d 34 (0, [some (.ref 43), some (.int a1), none], [], D, E) (qR none v E) := by
  have hq : kq_m 34 = some kq_q34 := rfl
  unfold g_Groups_sortIn at h
  refine gv_n hq 3 (S' := (6, [some (.ref 43), some (.int a1), none], [.int (nI 8), .int (D 43 1)], D, E)) rfl ?_
  refine gv_b hq rfl h 10 9 rfl rfl rfl (fun h => ?_) (fun h => ?_)
  · refine gv_n hq 3 (S' := (15, [some (.ref 43), some (.int a1), some (.int (D 43 1))], [], D, E)) rfl ?_
    exact gv_w (t_Groups_sortIn_15 X F d E F _ _ _ _ h) (And.intro rfl (And.intro rfl (And.intro rfl trivial)))
  · cases h
    exact ev_ret hq rfl rfl ⟨rfl, rfl, rfl⟩
def b_Groups_take_7 (F : Nat) (k7 : Int32 → Int32 → mx_D → Option (mx_D)) (l2 : Int32) (l3 : Int32) (D : mx_D) : Option (mx_D) := (if (D 24 6) ≤ l3 then (some D) else (Option.bind (g_Church_isSeated D l3) (fun r1 => (if r1 = 0 then (k7 l2 (l3 + (nI 1)) D) else (Option.bind (g_Church_standingHigh F D l3 l2) (fun r2 => (Option.bind (g_Groups_sortIn F r2 D) (fun r3 => (k7 l2 (l3 + (nI 1)) r3)))))))))
set_option maxRecDepth 100000 in
set_option maxHeartbeats 4000000 in
theorem tb_Groups_take_7 (X : ev_X) (F : Nat) (d : Nat) (hd : 3 ≤ d + 1) (E : mx_E) (k7 : Int32 → Int32 → mx_D → Option (mx_D)) (K7 : ∀ (l2 : Int32) (l3 : Int32) (D : mx_D) (v : mx_D), k7 l2 l3 D = some v → ev X (d + 1) 33 (7, [some (.ref 43), some (.ref 19), some (.int l2), some (.int l3)], [], D, E) (qR none v E)) (l2 : Int32) (l3 : Int32) (D : mx_D) (v : mx_D) (h : b_Groups_take_7 F k7 l2 l3 D = some v) : ev X (d + 1) 33 (7, [some (.ref 43), some (.ref 19), some (.int l2), some (.int l3)], [], D, E) (qR none v E) := by
  have hq : kq_m 33 = some kq_q33 := rfl
  unfold b_Groups_take_7 at h
  refine gv_n hq 4 (S' := (15, [some (.ref 43), some (.ref 19), some (.int l2), some (.int l3)], [.int (D 24 6), .int l3], D, E)) rfl ?_
  refine gv_b hq rfl h 42 18 rfl rfl rfl (fun h => ?_) (fun h => ?_)
  · cases h
    exact ev_ret hq rfl rfl ⟨rfl, rfl, rfl⟩
  · refine gv_n hq 2 (S' := (20, [some (.ref 43), some (.ref 19), some (.int l2), some (.int l3)], [.int l3, .ref 19], D, E)) rfl ?_
    obtain ⟨r1, h1, h⟩ := Option.bind_eq_some_iff.mp h
    refine gv_d hq rfl rfl rfl rfl rfl (gv_dd (by omega) (t_Church_isSeated X (d - 1) (by omega) D E _ _ h1)) (S' := (23, [some (.ref 43), some (.ref 19), some (.int l2), some (.int l3)], [.int r1], D, E)) rfl ?_
    refine gv_b hq rfl h 36 26 rfl rfl rfl (fun h => ?_) (fun h => ?_)
    · refine gv_n hq 2 (S' := (7, [some (.ref 43), some (.ref 19), some (.int l2), some (.int (l3 + (nI 1)))], [], D, E)) rfl ?_
      exact gv_w (K7 _ _ _ _ h) (And.intro rfl (And.intro rfl (And.intro rfl (And.intro rfl trivial))))
    · refine gv_n hq 4 (S' := (30, [some (.ref 43), some (.ref 19), some (.int l2), some (.int l3)], [.int l2, .int l3, .ref 19, .ref 43], D, E)) rfl ?_
      obtain ⟨r2, h1, h⟩ := Option.bind_eq_some_iff.mp h
      refine gv_d hq rfl rfl rfl rfl rfl (gv_dd (by omega) (t_Church_standingHigh X F (d - 1) (by omega) D E _ _ _ h1)) (S' := (33, [some (.ref 43), some (.ref 19), some (.int l2), some (.int l3)], [.int r2, .ref 43], D, E)) rfl ?_
      obtain ⟨r3, h1, h⟩ := Option.bind_eq_some_iff.mp h
      refine gv_d hq rfl rfl rfl rfl rfl ((t_Groups_sortIn X F d E _ _ _ h1)) (S' := (36, [some (.ref 43), some (.ref 19), some (.int l2), some (.int l3)], [], r3, E)) rfl ?_
      refine gv_n hq 2 (S' := (7, [some (.ref 43), some (.ref 19), some (.int l2), some (.int (l3 + (nI 1)))], [], r3, E)) rfl ?_
      exact gv_w (K7 _ _ _ _ h) (And.intro rfl (And.intro rfl (And.intro rfl (And.intro rfl trivial))))
def g_Groups_take_7 (F : Nat) : Nat → Int32 → Int32 → mx_D → Option (mx_D) := it (fun k7 => b_Groups_take_7 F k7) (fun _ _ _ => none)
set_option maxRecDepth 100000 in
set_option maxHeartbeats 4000000 in
theorem t_Groups_take_7 (X : ev_X) (F : Nat) (d : Nat) (hd : 3 ≤ d + 1) (E : mx_E)  : ∀ (n : Nat) (l2 : Int32) (l3 : Int32) (D : mx_D) (v : mx_D), g_Groups_take_7 F n l2 l3 D = some v → ev X (d + 1) 33 (7, [some (.ref 43), some (.ref 19), some (.int l2), some (.int l3)], [], D, E) (qR none v E) := by
  intro n
  induction n with
  | zero => intro l2 l3 D v h; cases h
  | succ n ih => intro l2 l3 D v h; exact tb_Groups_take_7 X F d hd E (g_Groups_take_7 F n) ih l2 l3 D v h
def g_Groups_take (F : Nat) (a2 : Int32) (D : mx_D) : Option (mx_D) := (g_Groups_take_7 F F a2 (nI 0) (sD D 43 1 (nI 0)))
set_option maxRecDepth 100000 in
set_option maxHeartbeats 4000000 in
theorem t_Groups_take (X : ev_X) (F : Nat) (d : Nat) (hd : 3 ≤ d + 1) (E : mx_E) (a2 : Int32) (D : mx_D) (v : mx_D) (h : g_Groups_take F a2 D = some v) : ev X (d + 1) 33 (0, [some (.ref 43), some (.ref 19), some (.int a2), none], [], D, E) (qR none v E) := by
  have hq : kq_m 33 = some kq_q33 := rfl
  unfold g_Groups_take at h
  refine gv_n hq 5 (S' := (7, [some (.ref 43), some (.ref 19), some (.int a2), some (.int (nI 0))], [], (sD D 43 1 (nI 0)), E)) rfl ?_
  exact gv_w (t_Groups_take_7 X F d hd E F _ _ _ _ h) (And.intro rfl (And.intro rfl (And.intro rfl (And.intro rfl trivial))))
def b_Groups_fewest_44 (F : Nat) (D : mx_D) (k11 : Int32 → Int32 → Int32 → Int32 → Int32 → Int32 → Option (Int32)) (l1 : Int32) (l2 : Int32) (l3 : Int32) (l6 : Int32) : Option (Int32) := (rk 8 l6 (k11 l1 l2 (l3 + (nI 1)) ((nI 0) + (nI 1)) (D 44 (l6).toNatClampNeg) (l6 + (nI 1))))
set_option maxRecDepth 100000 in
set_option maxHeartbeats 4000000 in
theorem tb_Groups_fewest_44 (X : ev_X) (F : Nat) (d : Nat) (D : mx_D) (E : mx_E) (k11 : Int32 → Int32 → Int32 → Int32 → Int32 → Int32 → Option (Int32)) (K11 : ∀ (l1 : Int32) (l2 : Int32) (l3 : Int32) (l4 : Int32) (l5 : Int32) (l6 : Int32) (v : Int32), k11 l1 l2 l3 l4 l5 l6 = some v → ev X d 35 (11, [some (.ref 43), some (.int l1), some (.int l2), some (.int l3), some (.int l4), some (.int l5), some (.int l6)], [], D, E) (qR (some (.int v)) D E)) (l1 : Int32) (l2 : Int32) (l3 : Int32) (l6 : Int32) (v : Int32) (h : b_Groups_fewest_44 F D k11 l1 l2 l3 l6 = some v) : ev X d 35 (44, [some (.ref 43), some (.int l1), some (.int l2), some (.int l3), none, none, some (.int l6)], [], D, E) (qR (some (.int v)) D E) := by
  have hq : kq_m 35 = some kq_q35 := rfl
  unfold b_Groups_fewest_44 at h
  refine gv_n hq 6 (S' := (56, [some (.ref 43), some (.int l1), some (.int l2), some (.int (l3 + (nI 1))), some (.int (nI 0)), none, some (.int l6)], [.int l6, .ref 44], D, E)) rfl ?_
  refine gv_ia hq rfl rfl rfl h 57 rfl (fun h => ?_)
  refine gv_n hq 4 (S' := (11, [some (.ref 43), some (.int l1), some (.int l2), some (.int (l3 + (nI 1))), some (.int ((nI 0) + (nI 1))), some (.int (D 44 (l6).toNatClampNeg)), some (.int (l6 + (nI 1)))], [], D, E)) rfl ?_
  exact gv_w (K11 _ _ _ _ _ _ _ h) (And.intro rfl (And.intro rfl (And.intro rfl (And.intro rfl (And.intro rfl (And.intro rfl (And.intro rfl trivial)))))))
def b_Groups_fewest_11 (F : Nat) (D : mx_D) (k11 : Int32 → Int32 → Int32 → Int32 → Int32 → Int32 → Option (Int32)) (l1 : Int32) (l2 : Int32) (l3 : Int32) (l4 : Int32) (l5 : Int32) (l6 : Int32) : Option (Int32) := (if (D 43 1) ≤ l6 then (some l3) else (if l3 = 0 then (b_Groups_fewest_44 F D k11 l1 l2 l3 l6) else (if l2 ≤ l4 then (b_Groups_fewest_44 F D k11 l1 l2 l3 l6) else (rk 8 l6 (if ((D 44 (l6).toNatClampNeg) - l5) ≤ l1 then (k11 l1 l2 l3 (l4 + (nI 1)) l5 (l6 + (nI 1))) else (b_Groups_fewest_44 F D k11 l1 l2 l3 l6))))))
set_option maxRecDepth 100000 in
set_option maxHeartbeats 4000000 in
theorem tb_Groups_fewest_11 (X : ev_X) (F : Nat) (d : Nat) (D : mx_D) (E : mx_E) (k11 : Int32 → Int32 → Int32 → Int32 → Int32 → Int32 → Option (Int32)) (K11 : ∀ (l1 : Int32) (l2 : Int32) (l3 : Int32) (l4 : Int32) (l5 : Int32) (l6 : Int32) (v : Int32), k11 l1 l2 l3 l4 l5 l6 = some v → ev X d 35 (11, [some (.ref 43), some (.int l1), some (.int l2), some (.int l3), some (.int l4), some (.int l5), some (.int l6)], [], D, E) (qR (some (.int v)) D E)) (l1 : Int32) (l2 : Int32) (l3 : Int32) (l4 : Int32) (l5 : Int32) (l6 : Int32) (v : Int32) (h : b_Groups_fewest_11 F D k11 l1 l2 l3 l4 l5 l6 = some v) : ev X d 35 (11, [some (.ref 43), some (.int l1), some (.int l2), some (.int l3), some (.int l4), some (.int l5), some (.int l6)], [], D, E) (qR (some (.int v)) D E) := by
  have hq : kq_m 35 = some kq_q35 := rfl
  unfold b_Groups_fewest_11 at h
  refine gv_n hq 3 (S' := (17, [some (.ref 43), some (.int l1), some (.int l2), some (.int l3), some (.int l4), some (.int l5), some (.int l6)], [.int (D 43 1), .int l6], D, E)) rfl ?_
  refine gv_b hq rfl h 68 20 rfl rfl rfl (fun h => ?_) (fun h => ?_)
  · refine gv_n hq 1 (S' := (69, [some (.ref 43), some (.int l1), some (.int l2), some (.int l3), some (.int l4), some (.int l5), some (.int l6)], [.int l3], D, E)) rfl ?_
    cases h
    exact ev_ret hq rfl rfl ⟨rfl, rfl, rfl⟩
  · refine gv_n hq 1 (S' := (21, [some (.ref 43), some (.int l1), some (.int l2), some (.int l3), some (.int l4), some (.int l5), some (.int l6)], [.int l3], D, E)) rfl ?_
    refine gv_b hq rfl h 44 24 rfl rfl rfl (fun h => ?_) (fun h => ?_)
    · exact gv_w (tb_Groups_fewest_44 X F d D E k11 K11 _ _ _ _ _ h) (And.intro rfl (And.intro rfl (And.intro rfl (And.intro rfl (And.intro rfl trivial)))))
    · refine gv_n hq 2 (S' := (27, [some (.ref 43), some (.int l1), some (.int l2), some (.int l3), some (.int l4), some (.int l5), some (.int l6)], [.int l2, .int l4], D, E)) rfl ?_
      refine gv_b hq rfl h 44 30 rfl rfl rfl (fun h => ?_) (fun h => ?_)
      · exact gv_w (tb_Groups_fewest_44 X F d D E k11 K11 _ _ _ _ _ h) (And.intro rfl (And.intro rfl (And.intro rfl (And.intro rfl (And.intro rfl trivial)))))
      · refine gv_n hq 3 (S' := (36, [some (.ref 43), some (.int l1), some (.int l2), some (.int l3), some (.int l4), some (.int l5), some (.int l6)], [.int l6, .ref 44], D, E)) rfl ?_
        refine gv_ia hq rfl rfl rfl h 37 rfl (fun h => ?_)
        refine gv_n hq 3 (S' := (41, [some (.ref 43), some (.int l1), some (.int l2), some (.int l3), some (.int l4), some (.int l5), some (.int l6)], [.int l1, .int ((D 44 (l6).toNatClampNeg) - l5)], D, E)) rfl ?_
        refine gv_b hq rfl h 59 44 rfl rfl rfl (fun h => ?_) (fun h => ?_)
        · refine gv_n hq 3 (S' := (11, [some (.ref 43), some (.int l1), some (.int l2), some (.int l3), some (.int (l4 + (nI 1))), some (.int l5), some (.int (l6 + (nI 1)))], [], D, E)) rfl ?_
          exact gv_w (K11 _ _ _ _ _ _ _ h) (And.intro rfl (And.intro rfl (And.intro rfl (And.intro rfl (And.intro rfl (And.intro rfl (And.intro rfl trivial)))))))
        · exact gv_w (tb_Groups_fewest_44 X F d D E k11 K11 _ _ _ _ _ h) (And.intro rfl (And.intro rfl (And.intro rfl (And.intro rfl (And.intro rfl trivial)))))
def g_Groups_fewest_11 (F : Nat) (D : mx_D) : Nat → Int32 → Int32 → Int32 → Int32 → Int32 → Int32 → Option (Int32) := it (fun k11 => b_Groups_fewest_11 F D k11) (fun _ _ _ _ _ _ => none)
set_option maxRecDepth 100000 in
set_option maxHeartbeats 4000000 in
theorem t_Groups_fewest_11 (X : ev_X) (F : Nat) (d : Nat) (D : mx_D) (E : mx_E)  : ∀ (n : Nat) (l1 : Int32) (l2 : Int32) (l3 : Int32) (l4 : Int32) (l5 : Int32) (l6 : Int32) (v : Int32), g_Groups_fewest_11 F D n l1 l2 l3 l4 l5 l6 = some v → ev X d 35 (11, [some (.ref 43), some (.int l1), some (.int l2), some (.int l3), some (.int l4), some (.int l5), some (.int l6)], [], D, E) (qR (some (.int v)) D E) := by
  intro n
  induction n with
  | zero => intro l1 l2 l3 l4 l5 l6 v h; cases h
  | succ n ih => intro l1 l2 l3 l4 l5 l6 v h; exact tb_Groups_fewest_11 X F d D E (g_Groups_fewest_11 F D n) ih l1 l2 l3 l4 l5 l6 v h
def g_Groups_fewest (F : Nat) (D : mx_D) (a1 : Int32) (a2 : Int32) : Option (Int32) := (g_Groups_fewest_11 F D F a1 a2 (nI 0) (nI 0) (nI 0) (nI 0))
set_option maxRecDepth 100000 in
set_option maxHeartbeats 4000000 in
theorem t_Groups_fewest (X : ev_X) (F : Nat) (d : Nat) (D : mx_D) (E : mx_E) (a1 : Int32) (a2 : Int32) (v : Int32) (h : g_Groups_fewest F D a1 a2 = some v) : ev X d 35 (0, [some (.ref 43), some (.int a1), some (.int a2), none, none, none, none], [], D, E) (qR (some (.int v)) D E) := by
  have hq : kq_m 35 = some kq_q35 := rfl
  unfold g_Groups_fewest at h
  refine gv_n hq 8 (S' := (11, [some (.ref 43), some (.int a1), some (.int a2), some (.int (nI 0)), some (.int (nI 0)), some (.int (nI 0)), some (.int (nI 0))], [], D, E)) rfl ?_
  exact gv_w (t_Groups_fewest_11 X F d D E F _ _ _ _ _ _ _ h) (And.intro rfl (And.intro rfl (And.intro rfl (And.intro rfl (And.intro rfl (And.intro rfl (And.intro rfl trivial)))))))
def g_X_kinds (F : Nat) (a1 : Int32) (D : mx_D) : Option (Int32 × mx_D) := (if (g_X_canAsk D a1) = 0 then (some ((-2 : Int32), D)) else (Option.bind (g_Groups_take F a1 D) (fun r1 => (Option.bind (g_Groups_fewest F r1 (r1 19 2) (r1 19 1)) (fun r2 => (some (r2, r1)))))))
set_option maxRecDepth 100000 in
set_option maxHeartbeats 4000000 in
theorem t_X_kinds (X : ev_X) (F : Nat) (d : Nat) (hd : 4 ≤ d + 1) (E : mx_E) (a1 : Int32) (D : mx_D) (v : Int32 × mx_D) (h : g_X_kinds F a1 D = some v) : ev X (d + 1) 148 (0, [some (.ref 0), some (.int a1)], [], D, E) (qR (some (.int v.1)) v.2 E) := by
  have hq : kq_m 148 = some kq_q148 := rfl
  unfold g_X_kinds at h
  refine gv_n hq 2 (S' := (2, [some (.ref 0), some (.int a1)], [.int a1, .ref 0], D, E)) rfl ?_
  refine gv_d hq rfl rfl rfl rfl rfl (gv_dd (by omega) (t_X_canAsk X (d - 1) (by omega) D E _ _ rfl)) (S' := (5, [some (.ref 0), some (.int a1)], [.int (g_X_canAsk D a1)], D, E)) rfl ?_
  refine gv_b hq rfl h 8 11 rfl rfl rfl (fun h => ?_) (fun h => ?_)
  · refine gv_n hq 1 (S' := (10, [some (.ref 0), some (.int a1)], [.int (-2 : Int32)], D, E)) rfl ?_
    cases h
    exact ev_ret hq rfl rfl ⟨rfl, rfl, rfl⟩
  · refine gv_n hq 5 (S' := (20, [some (.ref 0), some (.int a1)], [.int a1, .ref 19, .ref 43], D, E)) rfl ?_
    obtain ⟨r1, h1, h⟩ := Option.bind_eq_some_iff.mp h
    refine gv_d hq rfl rfl rfl rfl rfl (gv_dd (by omega) (t_Groups_take X F (d - 1) (by omega) E _ _ _ h1)) (S' := (23, [some (.ref 0), some (.int a1)], [], r1, E)) rfl ?_
    refine gv_n hq 8 (S' := (41, [some (.ref 0), some (.int a1)], [.int (r1 19 1), .int (r1 19 2), .ref 43], r1, E)) rfl ?_
    obtain ⟨r2, h1, h⟩ := Option.bind_eq_some_iff.mp h
    refine gv_d hq rfl rfl rfl rfl rfl ((t_Groups_fewest X F d r1 E _ _ _ h1)) (S' := (44, [some (.ref 0), some (.int a1)], [.int r2], r1, E)) rfl ?_
    cases h
    exact ev_ret hq rfl rfl ⟨rfl, rfl, rfl⟩
def b_M_layBodies_2 (F : Nat) (k2 : Int32 → Int32 → mx_D → Option (mx_D)) (l1 : Int32) (l2 : Int32) (D : mx_D) : Option (mx_D) := (if (D 117 4) ≤ l2 then (some D) else (Option.bind (g_M_bodyOf F D l2 l1) (fun r1 => (rk 8 l2 (k2 l1 (l2 + (nI 1)) (sD D 123 (l2).toNatClampNeg r1))))))
set_option maxRecDepth 100000 in
set_option maxHeartbeats 4000000 in
theorem tb_M_layBodies_2 (X : ev_X) (F : Nat) (d : Nat) (hd : 3 ≤ d + 1) (E : mx_E) (k2 : Int32 → Int32 → mx_D → Option (mx_D)) (K2 : ∀ (l1 : Int32) (l2 : Int32) (D : mx_D) (v : mx_D), k2 l1 l2 D = some v → ev X (d + 1) 287 (2, [some (.ref 116), some (.int l1), some (.int l2)], [], D, E) (qR none v E)) (l1 : Int32) (l2 : Int32) (D : mx_D) (v : mx_D) (h : b_M_layBodies_2 F k2 l1 l2 D = some v) : ev X (d + 1) 287 (2, [some (.ref 116), some (.int l1), some (.int l2)], [], D, E) (qR none v E) := by
  have hq : kq_m 287 = some kq_q287 := rfl
  unfold b_M_layBodies_2 at h
  refine gv_n hq 5 (S' := (9, [some (.ref 116), some (.int l1), some (.int l2)], [.int (D 117 4), .int l2], D, E)) rfl ?_
  refine gv_b hq rfl h 30 12 rfl rfl rfl (fun h => ?_) (fun h => ?_)
  · cases h
    exact ev_ret hq rfl rfl ⟨rfl, rfl, rfl⟩
  · refine gv_n hq 6 (S' := (20, [some (.ref 116), some (.int l1), some (.int l2)], [.int l1, .int l2, .ref 116, .int l2, .ref 123], D, E)) rfl ?_
    obtain ⟨r1, h1, h⟩ := Option.bind_eq_some_iff.mp h
    refine gv_d hq rfl rfl rfl rfl rfl (gv_dd (by omega) (t_M_bodyOf X F (d - 1) (by omega) D E _ _ _ h1)) (S' := (23, [some (.ref 116), some (.int l1), some (.int l2)], [.int r1, .int l2, .ref 123], D, E)) rfl ?_
    refine gv_is hq rfl rfl h 24 rfl (fun h => ?_)
    refine gv_n hq 2 (S' := (2, [some (.ref 116), some (.int l1), some (.int (l2 + (nI 1)))], [], (sD D 123 (l2).toNatClampNeg r1), E)) rfl ?_
    exact gv_w (K2 _ _ _ _ h) (And.intro rfl (And.intro rfl (And.intro rfl trivial)))
def g_M_layBodies_2 (F : Nat) : Nat → Int32 → Int32 → mx_D → Option (mx_D) := it (fun k2 => b_M_layBodies_2 F k2) (fun _ _ _ => none)
set_option maxRecDepth 100000 in
set_option maxHeartbeats 4000000 in
theorem t_M_layBodies_2 (X : ev_X) (F : Nat) (d : Nat) (hd : 3 ≤ d + 1) (E : mx_E)  : ∀ (n : Nat) (l1 : Int32) (l2 : Int32) (D : mx_D) (v : mx_D), g_M_layBodies_2 F n l1 l2 D = some v → ev X (d + 1) 287 (2, [some (.ref 116), some (.int l1), some (.int l2)], [], D, E) (qR none v E) := by
  intro n
  induction n with
  | zero => intro l1 l2 D v h; cases h
  | succ n ih => intro l1 l2 D v h; exact tb_M_layBodies_2 X F d hd E (g_M_layBodies_2 F n) ih l1 l2 D v h
def g_M_layBodies (F : Nat) (a1 : Int32) (D : mx_D) : Option (mx_D) := (g_M_layBodies_2 F F a1 (nI 0) D)
set_option maxRecDepth 100000 in
set_option maxHeartbeats 4000000 in
theorem t_M_layBodies (X : ev_X) (F : Nat) (d : Nat) (hd : 3 ≤ d + 1) (E : mx_E) (a1 : Int32) (D : mx_D) (v : mx_D) (h : g_M_layBodies F a1 D = some v) : ev X (d + 1) 287 (0, [some (.ref 116), some (.int a1), none], [], D, E) (qR none v E) := by
  have hq : kq_m 287 = some kq_q287 := rfl
  unfold g_M_layBodies at h
  refine gv_n hq 2 (S' := (2, [some (.ref 116), some (.int a1), some (.int (nI 0))], [], D, E)) rfl ?_
  exact gv_w (t_M_layBodies_2 X F d hd E F _ _ _ _ h) (And.intro rfl (And.intro rfl (And.intro rfl trivial)))
def b_M_kindsBy_48 (F : Nat) (k14 : Int32 → Int32 → Int32 → mx_D → Option (Int32 × mx_D)) (k48 : Int32 → Int32 → Int32 → Int32 → Int32 → mx_D → Option (Int32 × mx_D)) (l1 : Int32) (l2 : Int32) (l3 : Int32) (l4 : Int32) (l5 : Int32) (D : mx_D) : Option (Int32 × mx_D) := (if l5 ≤ 0 then (k14 l1 l2 (l3 + (nI 1)) D) else (if (l5 &&& l4) = 0 then (k48 l1 l2 l3 l4 ((l5 - (nI 1)) &&& l3) D) else (Option.bind (g_M_bits F l5) (fun r2 => (if (D 117 1) < r2 then (k48 l1 l2 l3 l4 ((l5 - (nI 1)) &&& l3) D) else (Option.bind (g_M_spreadOf F D l5) (fun r3 => (if r3 ≤ l1 then (rk 256 l3 (rk 256 (l3 &&& (l5 ^^^ (-1 : Int32))) (rk 256 l3 (k48 l1 l2 l3 l4 ((l5 - (nI 1)) &&& l3) (sD D 133 (l3).toNatClampNeg (imn (D 133 (l3).toNatClampNeg) ((D 133 ((l3 &&& (l5 ^^^ (-1 : Int32)))).toNatClampNeg) + (nI 1)))))))) else (k48 l1 l2 l3 l4 ((l5 - (nI 1)) &&& l3) D)))))))))
set_option maxRecDepth 100000 in
set_option maxHeartbeats 4000000 in
theorem tb_M_kindsBy_48 (X : ev_X) (F : Nat) (d : Nat) (hd : 3 ≤ d + 1) (E : mx_E) (k14 : Int32 → Int32 → Int32 → mx_D → Option (Int32 × mx_D)) (k48 : Int32 → Int32 → Int32 → Int32 → Int32 → mx_D → Option (Int32 × mx_D)) (K14 : ∀ (l1 : Int32) (l2 : Int32) (l3 : Int32) (D : mx_D) (v : Int32 × mx_D), k14 l1 l2 l3 D = some v → ev X (d + 1) 288 (14, [some (.ref 116), some (.int l1), some (.int l2), some (.int l3), none, none], [], D, E) (qR (some (.int v.1)) v.2 E)) (K48 : ∀ (l1 : Int32) (l2 : Int32) (l3 : Int32) (l4 : Int32) (l5 : Int32) (D : mx_D) (v : Int32 × mx_D), k48 l1 l2 l3 l4 l5 D = some v → ev X (d + 1) 288 (48, [some (.ref 116), some (.int l1), some (.int l2), some (.int l3), some (.int l4), some (.int l5)], [], D, E) (qR (some (.int v.1)) v.2 E)) (l1 : Int32) (l2 : Int32) (l3 : Int32) (l4 : Int32) (l5 : Int32) (D : mx_D) (v : Int32 × mx_D) (h : b_M_kindsBy_48 F k14 k48 l1 l2 l3 l4 l5 D = some v) : ev X (d + 1) 288 (48, [some (.ref 116), some (.int l1), some (.int l2), some (.int l3), some (.int l4), some (.int l5)], [], D, E) (qR (some (.int v.1)) v.2 E) := by
  have hq : kq_m 288 = some kq_q288 := rfl
  unfold b_M_kindsBy_48 at h
  refine gv_n hq 1 (S' := (50, [some (.ref 116), some (.int l1), some (.int l2), some (.int l3), some (.int l4), some (.int l5)], [.int l5], D, E)) rfl ?_
  refine gv_b hq rfl h 127 53 rfl rfl rfl (fun h => ?_) (fun h => ?_)
  · refine gv_n hq 2 (S' := (14, [some (.ref 116), some (.int l1), some (.int l2), some (.int (l3 + (nI 1))), some (.int l4), some (.int l5)], [], D, E)) rfl ?_
    exact gv_w (K14 _ _ _ _ _ h) (And.intro rfl (And.intro rfl (And.intro rfl (And.intro rfl trivial))))
  · refine gv_n hq 3 (S' := (58, [some (.ref 116), some (.int l1), some (.int l2), some (.int l3), some (.int l4), some (.int l5)], [.int (l5 &&& l4)], D, E)) rfl ?_
    refine gv_b hq rfl h 116 61 rfl rfl rfl (fun h => ?_) (fun h => ?_)
    · refine gv_n hq 7 (S' := (48, [some (.ref 116), some (.int l1), some (.int l2), some (.int l3), some (.int l4), some (.int ((l5 - (nI 1)) &&& l3))], [], D, E)) rfl ?_
      exact gv_w (K48 _ _ _ _ _ _ _ h) (And.intro rfl (And.intro rfl (And.intro rfl (And.intro rfl (And.intro rfl (And.intro rfl trivial))))))
    · refine gv_n hq 1 (S' := (63, [some (.ref 116), some (.int l1), some (.int l2), some (.int l3), some (.int l4), some (.int l5)], [.int l5], D, E)) rfl ?_
      obtain ⟨r2, h1, h⟩ := Option.bind_eq_some_iff.mp h
      refine gv_d hq rfl rfl rfl rfl rfl ((t_M_bits X F d D E _ _ h1)) (S' := (66, [some (.ref 116), some (.int l1), some (.int l2), some (.int l3), some (.int l4), some (.int l5)], [.int r2], D, E)) rfl ?_
      refine gv_n hq 4 (S' := (72, [some (.ref 116), some (.int l1), some (.int l2), some (.int l3), some (.int l4), some (.int l5)], [.int (D 117 1), .int r2], D, E)) rfl ?_
      refine gv_b hq rfl h 116 75 rfl rfl rfl (fun h => ?_) (fun h => ?_)
      · refine gv_n hq 7 (S' := (48, [some (.ref 116), some (.int l1), some (.int l2), some (.int l3), some (.int l4), some (.int ((l5 - (nI 1)) &&& l3))], [], D, E)) rfl ?_
        exact gv_w (K48 _ _ _ _ _ _ _ h) (And.intro rfl (And.intro rfl (And.intro rfl (And.intro rfl (And.intro rfl (And.intro rfl trivial))))))
      · refine gv_n hq 2 (S' := (78, [some (.ref 116), some (.int l1), some (.int l2), some (.int l3), some (.int l4), some (.int l5)], [.int l5, .ref 116], D, E)) rfl ?_
        obtain ⟨r3, h1, h⟩ := Option.bind_eq_some_iff.mp h
        refine gv_d hq rfl rfl rfl rfl rfl (gv_dd (by omega) (t_M_spreadOf X F (d - 1) (by omega) D E _ _ h1)) (S' := (81, [some (.ref 116), some (.int l1), some (.int l2), some (.int l3), some (.int l4), some (.int l5)], [.int r3], D, E)) rfl ?_
        refine gv_n hq 1 (S' := (82, [some (.ref 116), some (.int l1), some (.int l2), some (.int l3), some (.int l4), some (.int l5)], [.int l1, .int r3], D, E)) rfl ?_
        refine gv_b hq rfl h 88 85 rfl rfl rfl (fun h => ?_) (fun h => ?_)
        · refine gv_n hq 6 (S' := (98, [some (.ref 116), some (.int l1), some (.int l2), some (.int l3), some (.int l4), some (.int l5)], [.int l3, .ref 133, .int l3, .ref 133], D, E)) rfl ?_
          refine gv_ia hq rfl rfl rfl h 99 rfl (fun h => ?_)
          refine gv_n hq 7 (S' := (109, [some (.ref 116), some (.int l1), some (.int l2), some (.int l3), some (.int l4), some (.int l5)], [.int (l3 &&& (l5 ^^^ (-1 : Int32))), .ref 133, .int (D 133 (l3).toNatClampNeg), .int l3, .ref 133], D, E)) rfl ?_
          refine gv_ia hq rfl rfl rfl h 110 rfl (fun h => ?_)
          refine gv_n hq 3 (S' := (115, [some (.ref 116), some (.int l1), some (.int l2), some (.int l3), some (.int l4), some (.int l5)], [.int (imn (D 133 (l3).toNatClampNeg) ((D 133 ((l3 &&& (l5 ^^^ (-1 : Int32)))).toNatClampNeg) + (nI 1))), .int l3, .ref 133], D, E)) rfl ?_
          refine gv_is hq rfl rfl h 116 rfl (fun h => ?_)
          refine gv_n hq 7 (S' := (48, [some (.ref 116), some (.int l1), some (.int l2), some (.int l3), some (.int l4), some (.int ((l5 - (nI 1)) &&& l3))], [], (sD D 133 (l3).toNatClampNeg (imn (D 133 (l3).toNatClampNeg) ((D 133 ((l3 &&& (l5 ^^^ (-1 : Int32)))).toNatClampNeg) + (nI 1)))), E)) rfl ?_
          exact gv_w (K48 _ _ _ _ _ _ _ h) (And.intro rfl (And.intro rfl (And.intro rfl (And.intro rfl (And.intro rfl (And.intro rfl trivial))))))
        · refine gv_n hq 8 (S' := (48, [some (.ref 116), some (.int l1), some (.int l2), some (.int l3), some (.int l4), some (.int ((l5 - (nI 1)) &&& l3))], [], D, E)) rfl ?_
          exact gv_w (K48 _ _ _ _ _ _ _ h) (And.intro rfl (And.intro rfl (And.intro rfl (And.intro rfl (And.intro rfl (And.intro rfl trivial))))))
def g_M_kindsBy_48 (F : Nat) (k14 : Int32 → Int32 → Int32 → mx_D → Option (Int32 × mx_D)) : Nat → Int32 → Int32 → Int32 → Int32 → Int32 → mx_D → Option (Int32 × mx_D) := it (fun k48 => b_M_kindsBy_48 F k14 k48) (fun _ _ _ _ _ _ => none)
set_option maxRecDepth 100000 in
set_option maxHeartbeats 4000000 in
theorem t_M_kindsBy_48 (X : ev_X) (F : Nat) (d : Nat) (hd : 3 ≤ d + 1) (E : mx_E) (k14 : Int32 → Int32 → Int32 → mx_D → Option (Int32 × mx_D)) (K14 : ∀ (l1 : Int32) (l2 : Int32) (l3 : Int32) (D : mx_D) (v : Int32 × mx_D), k14 l1 l2 l3 D = some v → ev X (d + 1) 288 (14, [some (.ref 116), some (.int l1), some (.int l2), some (.int l3), none, none], [], D, E) (qR (some (.int v.1)) v.2 E)) : ∀ (n : Nat) (l1 : Int32) (l2 : Int32) (l3 : Int32) (l4 : Int32) (l5 : Int32) (D : mx_D) (v : Int32 × mx_D), g_M_kindsBy_48 F k14 n l1 l2 l3 l4 l5 D = some v → ev X (d + 1) 288 (48, [some (.ref 116), some (.int l1), some (.int l2), some (.int l3), some (.int l4), some (.int l5)], [], D, E) (qR (some (.int v.1)) v.2 E) := by
  intro n
  induction n with
  | zero => intro l1 l2 l3 l4 l5 D v h; cases h
  | succ n ih => intro l1 l2 l3 l4 l5 D v h; exact tb_M_kindsBy_48 X F d hd E k14 (g_M_kindsBy_48 F k14 n) K14 ih l1 l2 l3 l4 l5 D v h
def b_M_kindsBy_14 (F : Nat) (k14 : Int32 → Int32 → Int32 → mx_D → Option (Int32 × mx_D)) (l1 : Int32) (l2 : Int32) (l3 : Int32) (D : mx_D) : Option (Int32 × mx_D) := (if l2 < l3 then (rk 256 l2 (some ((D 133 (l2).toNatClampNeg), D))) else (rk 256 l3 (if (l3 &&& (l2 ^^^ (-1 : Int32))) = 0 then (g_M_kindsBy_48 F k14 F l1 l2 l3 (l3 &&& (-l3)) l3 (sD D 133 (l3).toNatClampNeg (nI 1000000))) else (k14 l1 l2 (l3 + (nI 1)) (sD D 133 (l3).toNatClampNeg (nI 1000000))))))
set_option maxRecDepth 100000 in
set_option maxHeartbeats 4000000 in
theorem tb_M_kindsBy_14 (X : ev_X) (F : Nat) (d : Nat) (hd : 3 ≤ d + 1) (E : mx_E) (k14 : Int32 → Int32 → Int32 → mx_D → Option (Int32 × mx_D)) (K14 : ∀ (l1 : Int32) (l2 : Int32) (l3 : Int32) (D : mx_D) (v : Int32 × mx_D), k14 l1 l2 l3 D = some v → ev X (d + 1) 288 (14, [some (.ref 116), some (.int l1), some (.int l2), some (.int l3), none, none], [], D, E) (qR (some (.int v.1)) v.2 E)) (l1 : Int32) (l2 : Int32) (l3 : Int32) (D : mx_D) (v : Int32 × mx_D) (h : b_M_kindsBy_14 F k14 l1 l2 l3 D = some v) : ev X (d + 1) 288 (14, [some (.ref 116), some (.int l1), some (.int l2), some (.int l3), none, none], [], D, E) (qR (some (.int v.1)) v.2 E) := by
  have hq : kq_m 288 = some kq_q288 := rfl
  unfold b_M_kindsBy_14 at h
  refine gv_n hq 2 (S' := (16, [some (.ref 116), some (.int l1), some (.int l2), some (.int l3), none, none], [.int l2, .int l3], D, E)) rfl ?_
  refine gv_b hq rfl h 133 19 rfl rfl rfl (fun h => ?_) (fun h => ?_)
  · refine gv_n hq 3 (S' := (138, [some (.ref 116), some (.int l1), some (.int l2), some (.int l3), none, none], [.int l2, .ref 133], D, E)) rfl ?_
    refine gv_ia hq rfl rfl rfl h 139 rfl (fun h => ?_)
    cases h
    exact ev_ret hq rfl rfl ⟨rfl, rfl, rfl⟩
  · refine gv_n hq 4 (S' := (27, [some (.ref 116), some (.int l1), some (.int l2), some (.int l3), none, none], [.int (nI 1000000), .int l3, .ref 133], D, E)) rfl ?_
    refine gv_is hq rfl rfl h 28 rfl (fun h => ?_)
    refine gv_n hq 5 (S' := (33, [some (.ref 116), some (.int l1), some (.int l2), some (.int l3), none, none], [.int (l3 &&& (l2 ^^^ (-1 : Int32)))], (sD D 133 (l3).toNatClampNeg (nI 1000000)), E)) rfl ?_
    refine gv_b hq rfl h 39 36 rfl rfl rfl (fun h => ?_) (fun h => ?_)
    · refine gv_n hq 7 (S' := (48, [some (.ref 116), some (.int l1), some (.int l2), some (.int l3), some (.int (l3 &&& (-l3))), some (.int l3)], [], (sD D 133 (l3).toNatClampNeg (nI 1000000)), E)) rfl ?_
      exact gv_w (t_M_kindsBy_48 X F d hd E k14 K14 F _ _ _ _ _ _ _ h) (And.intro rfl (And.intro rfl (And.intro rfl (And.intro rfl (And.intro rfl (And.intro rfl trivial))))))
    · refine gv_n hq 3 (S' := (14, [some (.ref 116), some (.int l1), some (.int l2), some (.int (l3 + (nI 1))), none, none], [], (sD D 133 (l3).toNatClampNeg (nI 1000000)), E)) rfl ?_
      exact gv_w (K14 _ _ _ _ _ h) (And.intro rfl (And.intro rfl (And.intro rfl (And.intro rfl trivial))))
def g_M_kindsBy_14 (F : Nat) : Nat → Int32 → Int32 → Int32 → mx_D → Option (Int32 × mx_D) := it (fun k14 => b_M_kindsBy_14 F k14) (fun _ _ _ _ => none)
set_option maxRecDepth 100000 in
set_option maxHeartbeats 4000000 in
theorem t_M_kindsBy_14 (X : ev_X) (F : Nat) (d : Nat) (hd : 3 ≤ d + 1) (E : mx_E)  : ∀ (n : Nat) (l1 : Int32) (l2 : Int32) (l3 : Int32) (D : mx_D) (v : Int32 × mx_D), g_M_kindsBy_14 F n l1 l2 l3 D = some v → ev X (d + 1) 288 (14, [some (.ref 116), some (.int l1), some (.int l2), some (.int l3), none, none], [], D, E) (qR (some (.int v.1)) v.2 E) := by
  intro n
  induction n with
  | zero => intro l1 l2 l3 D v h; cases h
  | succ n ih => intro l1 l2 l3 D v h; exact tb_M_kindsBy_14 X F d hd E (g_M_kindsBy_14 F n) ih l1 l2 l3 D v h
def g_M_kindsBy (F : Nat) (a1 : Int32) (D : mx_D) : Option (Int32 × mx_D) := (Option.bind (g_M_sitters F D) (fun r1 => (g_M_kindsBy_14 F F a1 r1 (nI 1) (sD D 133 0 (nI 0)))))
set_option maxRecDepth 100000 in
set_option maxHeartbeats 4000000 in
theorem t_M_kindsBy (X : ev_X) (F : Nat) (d : Nat) (hd : 3 ≤ d + 1) (E : mx_E) (a1 : Int32) (D : mx_D) (v : Int32 × mx_D) (h : g_M_kindsBy F a1 D = some v) : ev X (d + 1) 288 (0, [some (.ref 116), some (.int a1), none, none, none, none], [], D, E) (qR (some (.int v.1)) v.2 E) := by
  have hq : kq_m 288 = some kq_q288 := rfl
  unfold g_M_kindsBy at h
  refine gv_n hq 1 (S' := (1, [some (.ref 116), some (.int a1), none, none, none, none], [.ref 116], D, E)) rfl ?_
  obtain ⟨r1, h1, h⟩ := Option.bind_eq_some_iff.mp h
  refine gv_d hq rfl rfl rfl rfl rfl (gv_dd (by omega) (t_M_sitters X F (d - 1) (by omega) D E _ h1)) (S' := (4, [some (.ref 116), some (.int a1), none, none, none, none], [.int r1], D, E)) rfl ?_
  refine gv_n hq 8 (S' := (14, [some (.ref 116), some (.int a1), some (.int r1), some (.int (nI 1)), none, none], [], (sD D 133 0 (nI 0)), E)) rfl ?_
  exact gv_w (t_M_kindsBy_14 X F d hd E F _ _ _ _ _ h) (And.intro rfl (And.intro rfl (And.intro rfl (And.intro rfl trivial))))
def g_M_kinds (F : Nat) (a1 : Int32) (D : mx_D) : Option (Int32 × mx_D) := (if (g_M_isYear D a1) = 0 then (some ((-2 : Int32), D)) else (Option.bind (g_M_layBodies F a1 D) (fun r1 => (Option.bind (g_M_kindsBy F (r1 117 2) r1) (fun r2 => (some (r2.1, r2.2)))))))
set_option maxRecDepth 100000 in
set_option maxHeartbeats 4000000 in
theorem t_M_kinds (X : ev_X) (F : Nat) (d : Nat) (hd : 4 ≤ d + 1) (E : mx_E) (a1 : Int32) (D : mx_D) (v : Int32 × mx_D) (h : g_M_kinds F a1 D = some v) : ev X (d + 1) 286 (0, [some (.ref 116), some (.int a1)], [], D, E) (qR (some (.int v.1)) v.2 E) := by
  have hq : kq_m 286 = some kq_q286 := rfl
  unfold g_M_kinds at h
  refine gv_n hq 2 (S' := (2, [some (.ref 116), some (.int a1)], [.int a1, .ref 116], D, E)) rfl ?_
  refine gv_d hq rfl rfl rfl rfl rfl (gv_dd (by omega) (t_M_isYear X (d - 1) (by omega) D E _ _ rfl)) (S' := (5, [some (.ref 116), some (.int a1)], [.int (g_M_isYear D a1)], D, E)) rfl ?_
  refine gv_b hq rfl h 8 11 rfl rfl rfl (fun h => ?_) (fun h => ?_)
  · refine gv_n hq 1 (S' := (10, [some (.ref 116), some (.int a1)], [.int (-2 : Int32)], D, E)) rfl ?_
    cases h
    exact ev_ret hq rfl rfl ⟨rfl, rfl, rfl⟩
  · refine gv_n hq 2 (S' := (13, [some (.ref 116), some (.int a1)], [.int a1, .ref 116], D, E)) rfl ?_
    obtain ⟨r1, h1, h⟩ := Option.bind_eq_some_iff.mp h
    refine gv_d hq rfl rfl rfl rfl rfl (gv_dd (by omega) (t_M_layBodies X F (d - 1) (by omega) E _ _ _ h1)) (S' := (16, [some (.ref 116), some (.int a1)], [], r1, E)) rfl ?_
    refine gv_n hq 5 (S' := (23, [some (.ref 116), some (.int a1)], [.int (r1 117 2), .ref 116], r1, E)) rfl ?_
    obtain ⟨r2, h1, h⟩ := Option.bind_eq_some_iff.mp h
    refine gv_d hq rfl rfl rfl rfl rfl (gv_dd (by omega) (t_M_kindsBy X F (d - 1) (by omega) E _ _ _ h1)) (S' := (26, [some (.ref 116), some (.int a1)], [.int r2.1], r2.2, E)) rfl ?_
    cases h
    exact ev_ret hq rfl rfl ⟨rfl, rfl, rfl⟩
def g_Groups_widest (D : mx_D) : Option (Int32) := (if (D 43 1) = 0 then (some (nI 0)) else (rk 8 ((D 43 1) - (nI 1)) (some ((D 44 (((D 43 1) - (nI 1))).toNatClampNeg) - (D 44 0)))))
set_option maxRecDepth 100000 in
set_option maxHeartbeats 4000000 in
theorem t_Groups_widest (X : ev_X) (d : Nat) (D : mx_D) (E : mx_E) (v : Int32) (h : g_Groups_widest D = some v) : ev X d 36 (0, [some (.ref 43)], [], D, E) (qR (some (.int v)) D E) := by
  have hq : kq_m 36 = some kq_q36 := rfl
  unfold g_Groups_widest at h
  refine gv_n hq 2 (S' := (4, [some (.ref 43)], [.int (D 43 1)], D, E)) rfl ?_
  refine gv_b hq rfl h 7 11 rfl rfl rfl (fun h => ?_) (fun h => ?_)
  · refine gv_n hq 2 (S' := (29, [some (.ref 43)], [.int (nI 0)], D, E)) rfl ?_
    cases h
    exact ev_ret hq rfl rfl ⟨rfl, rfl, rfl⟩
  · refine gv_n hq 6 (S' := (21, [some (.ref 43)], [.int ((D 43 1) - (nI 1)), .ref 44], D, E)) rfl ?_
    refine gv_ia hq rfl rfl rfl h 22 rfl (fun h => ?_)
    refine gv_n hq 5 (S' := (29, [some (.ref 43)], [.int ((D 44 (((D 43 1) - (nI 1))).toNatClampNeg) - (D 44 0))], D, E)) rfl ?_
    cases h
    exact ev_ret hq rfl rfl ⟨rfl, rfl, rfl⟩
def b_X_wide_38 (F : Nat) (k38 : Int32 → Int32 → Int32 → mx_D → Option (Int32 × mx_D)) (l2 : Int32) (l3 : Int32) (l4 : Int32) (D : mx_D) : Option (Int32 × mx_D) := (if l3 < l4 then (some ((-1 : Int32), D)) else (Option.bind (g_Groups_fewest F D l4 (D 19 1)) (fun r3 => (if l2 < r3 then (k38 l2 l3 (l4 + (nI 1)) D) else (some (l4, D))))))
set_option maxRecDepth 100000 in
set_option maxHeartbeats 4000000 in
theorem tb_X_wide_38 (X : ev_X) (F : Nat) (d : Nat) (hd : 4 ≤ d + 1) (E : mx_E) (k38 : Int32 → Int32 → Int32 → mx_D → Option (Int32 × mx_D)) (K38 : ∀ (l2 : Int32) (l3 : Int32) (l4 : Int32) (D : mx_D) (v : Int32 × mx_D), k38 l2 l3 l4 D = some v → ev X (d + 1) 149 (38, [some (.ref 0), none, some (.int l2), some (.int l3), some (.int l4)], [], D, E) (qR (some (.int v.1)) v.2 E)) (l2 : Int32) (l3 : Int32) (l4 : Int32) (D : mx_D) (v : Int32 × mx_D) (h : b_X_wide_38 F k38 l2 l3 l4 D = some v) : ev X (d + 1) 149 (38, [some (.ref 0), none, some (.int l2), some (.int l3), some (.int l4)], [], D, E) (qR (some (.int v.1)) v.2 E) := by
  have hq : kq_m 149 = some kq_q149 := rfl
  unfold b_X_wide_38 at h
  refine gv_n hq 2 (S' := (41, [some (.ref 0), none, some (.int l2), some (.int l3), some (.int l4)], [.int l3, .int l4], D, E)) rfl ?_
  refine gv_b hq rfl h 73 44 rfl rfl rfl (fun h => ?_) (fun h => ?_)
  · refine gv_n hq 1 (S' := (74, [some (.ref 0), none, some (.int l2), some (.int l3), some (.int l4)], [.int (-1 : Int32)], D, E)) rfl ?_
    cases h
    exact ev_ret hq rfl rfl ⟨rfl, rfl, rfl⟩
  · refine gv_n hq 6 (S' := (57, [some (.ref 0), none, some (.int l2), some (.int l3), some (.int l4)], [.int (D 19 1), .int l4, .ref 43], D, E)) rfl ?_
    obtain ⟨r3, h1, h⟩ := Option.bind_eq_some_iff.mp h
    refine gv_d hq rfl rfl rfl rfl rfl ((t_Groups_fewest X F d D E _ _ _ h1)) (S' := (60, [some (.ref 0), none, some (.int l2), some (.int l3), some (.int l4)], [.int r3], D, E)) rfl ?_
    refine gv_n hq 1 (S' := (61, [some (.ref 0), none, some (.int l2), some (.int l3), some (.int l4)], [.int l2, .int r3], D, E)) rfl ?_
    refine gv_b hq rfl h 67 64 rfl rfl rfl (fun h => ?_) (fun h => ?_)
    · refine gv_n hq 2 (S' := (38, [some (.ref 0), none, some (.int l2), some (.int l3), some (.int (l4 + (nI 1)))], [], D, E)) rfl ?_
      exact gv_w (K38 _ _ _ _ _ h) (And.intro rfl (And.intro rfl (And.intro rfl (And.intro rfl trivial))))
    · refine gv_n hq 1 (S' := (66, [some (.ref 0), none, some (.int l2), some (.int l3), some (.int l4)], [.int l4], D, E)) rfl ?_
      cases h
      exact ev_ret hq rfl rfl ⟨rfl, rfl, rfl⟩
def g_X_wide_38 (F : Nat) : Nat → Int32 → Int32 → Int32 → mx_D → Option (Int32 × mx_D) := it (fun k38 => b_X_wide_38 F k38) (fun _ _ _ _ => none)
set_option maxRecDepth 100000 in
set_option maxHeartbeats 4000000 in
theorem t_X_wide_38 (X : ev_X) (F : Nat) (d : Nat) (hd : 4 ≤ d + 1) (E : mx_E)  : ∀ (n : Nat) (l2 : Int32) (l3 : Int32) (l4 : Int32) (D : mx_D) (v : Int32 × mx_D), g_X_wide_38 F n l2 l3 l4 D = some v → ev X (d + 1) 149 (38, [some (.ref 0), none, some (.int l2), some (.int l3), some (.int l4)], [], D, E) (qR (some (.int v.1)) v.2 E) := by
  intro n
  induction n with
  | zero => intro l2 l3 l4 D v h; cases h
  | succ n ih => intro l2 l3 l4 D v h; exact tb_X_wide_38 X F d hd E (g_X_wide_38 F n) ih l2 l3 l4 D v h
def g_X_wide (F : Nat) (a1 : Int32) (a2 : Int32) (D : mx_D) : Option (Int32 × mx_D) := (if (g_X_canAsk D a1) = 0 then (some ((-2 : Int32), D)) else (if 0 ≤ a2 then (Option.bind (g_Groups_take F a1 D) (fun r1 => (Option.bind (g_Groups_widest r1) (fun r2 => (g_X_wide_38 F F a2 r2 (nI 0) r1))))) else (some ((-2 : Int32), D))))
set_option maxRecDepth 100000 in
set_option maxHeartbeats 4000000 in
theorem t_X_wide (X : ev_X) (F : Nat) (d : Nat) (hd : 4 ≤ d + 1) (E : mx_E) (a1 : Int32) (a2 : Int32) (D : mx_D) (v : Int32 × mx_D) (h : g_X_wide F a1 a2 D = some v) : ev X (d + 1) 149 (0, [some (.ref 0), some (.int a1), some (.int a2), none, none], [], D, E) (qR (some (.int v.1)) v.2 E) := by
  have hq : kq_m 149 = some kq_q149 := rfl
  unfold g_X_wide at h
  refine gv_n hq 2 (S' := (2, [some (.ref 0), some (.int a1), some (.int a2), none, none], [.int a1, .ref 0], D, E)) rfl ?_
  refine gv_d hq rfl rfl rfl rfl rfl (gv_dd (by omega) (t_X_canAsk X (d - 1) (by omega) D E _ _ rfl)) (S' := (5, [some (.ref 0), some (.int a1), some (.int a2), none, none], [.int (g_X_canAsk D a1)], D, E)) rfl ?_
  refine gv_b hq rfl h 12 8 rfl rfl rfl (fun h => ?_) (fun h => ?_)
  · refine gv_n hq 1 (S' := (14, [some (.ref 0), some (.int a1), some (.int a2), none, none], [.int (-2 : Int32)], D, E)) rfl ?_
    cases h
    exact ev_ret hq rfl rfl ⟨rfl, rfl, rfl⟩
  · refine gv_n hq 1 (S' := (9, [some (.ref 0), some (.int a1), some (.int a2), none, none], [.int a2], D, E)) rfl ?_
    refine gv_b hq rfl h 15 12 rfl rfl rfl (fun h => ?_) (fun h => ?_)
    · refine gv_n hq 5 (S' := (24, [some (.ref 0), some (.int a1), some (.int a2), none, none], [.int a1, .ref 19, .ref 43], D, E)) rfl ?_
      obtain ⟨r1, h1, h⟩ := Option.bind_eq_some_iff.mp h
      refine gv_d hq rfl rfl rfl rfl rfl (gv_dd (by omega) (t_Groups_take X F (d - 1) (by omega) E _ _ _ h1)) (S' := (27, [some (.ref 0), some (.int a1), some (.int a2), none, none], [], r1, E)) rfl ?_
      refine gv_n hq 2 (S' := (31, [some (.ref 0), some (.int a1), some (.int a2), none, none], [.ref 43], r1, E)) rfl ?_
      obtain ⟨r2, h1, h⟩ := Option.bind_eq_some_iff.mp h
      refine gv_d hq rfl rfl rfl rfl rfl ((t_Groups_widest X d r1 E _ h1)) (S' := (34, [some (.ref 0), some (.int a1), some (.int a2), none, none], [.int r2], r1, E)) rfl ?_
      refine gv_n hq 3 (S' := (38, [some (.ref 0), some (.int a1), some (.int a2), some (.int r2), some (.int (nI 0))], [], r1, E)) rfl ?_
      exact gv_w (t_X_wide_38 X F d hd E F _ _ _ _ _ h) (And.intro rfl (And.intro rfl (And.intro rfl (And.intro rfl trivial))))
    · refine gv_n hq 1 (S' := (14, [some (.ref 0), some (.int a1), some (.int a2), none, none], [.int (-2 : Int32)], D, E)) rfl ?_
      cases h
      exact ev_ret hq rfl rfl ⟨rfl, rfl, rfl⟩
def b_M_wide_22 (F : Nat) (k22 : Int32 → Int32 → mx_D → Option (Int32 × mx_D)) (l2 : Int32) (l3 : Int32) (D : mx_D) : Option (Int32 × mx_D) := (if (nI 1000) < l3 then (some ((-1 : Int32), D)) else (Option.bind (g_M_kindsBy F l3 D) (fun r2 => (if l2 < r2.1 then (k22 l2 (l3 + (nI 1)) r2.2) else (some (l3, r2.2))))))
set_option maxRecDepth 100000 in
set_option maxHeartbeats 4000000 in
theorem tb_M_wide_22 (X : ev_X) (F : Nat) (d : Nat) (hd : 4 ≤ d + 1) (E : mx_E) (k22 : Int32 → Int32 → mx_D → Option (Int32 × mx_D)) (K22 : ∀ (l2 : Int32) (l3 : Int32) (D : mx_D) (v : Int32 × mx_D), k22 l2 l3 D = some v → ev X (d + 1) 289 (22, [some (.ref 116), none, some (.int l2), some (.int l3)], [], D, E) (qR (some (.int v.1)) v.2 E)) (l2 : Int32) (l3 : Int32) (D : mx_D) (v : Int32 × mx_D) (h : b_M_wide_22 F k22 l2 l3 D = some v) : ev X (d + 1) 289 (22, [some (.ref 116), none, some (.int l2), some (.int l3)], [], D, E) (qR (some (.int v.1)) v.2 E) := by
  have hq : kq_m 289 = some kq_q289 := rfl
  unfold b_M_wide_22 at h
  refine gv_n hq 2 (S' := (26, [some (.ref 116), none, some (.int l2), some (.int l3)], [.int (nI 1000), .int l3], D, E)) rfl ?_
  refine gv_b hq rfl h 46 29 rfl rfl rfl (fun h => ?_) (fun h => ?_)
  · refine gv_n hq 1 (S' := (47, [some (.ref 116), none, some (.int l2), some (.int l3)], [.int (-1 : Int32)], D, E)) rfl ?_
    cases h
    exact ev_ret hq rfl rfl ⟨rfl, rfl, rfl⟩
  · refine gv_n hq 2 (S' := (31, [some (.ref 116), none, some (.int l2), some (.int l3)], [.int l3, .ref 116], D, E)) rfl ?_
    obtain ⟨r2, h1, h⟩ := Option.bind_eq_some_iff.mp h
    refine gv_d hq rfl rfl rfl rfl rfl (gv_dd (by omega) (t_M_kindsBy X F (d - 1) (by omega) E _ _ _ h1)) (S' := (34, [some (.ref 116), none, some (.int l2), some (.int l3)], [.int r2.1], r2.2, E)) rfl ?_
    refine gv_n hq 1 (S' := (35, [some (.ref 116), none, some (.int l2), some (.int l3)], [.int l2, .int r2.1], r2.2, E)) rfl ?_
    refine gv_b hq rfl h 40 38 rfl rfl rfl (fun h => ?_) (fun h => ?_)
    · refine gv_n hq 2 (S' := (22, [some (.ref 116), none, some (.int l2), some (.int (l3 + (nI 1)))], [], r2.2, E)) rfl ?_
      exact gv_w (K22 _ _ _ _ h) (And.intro rfl (And.intro rfl (And.intro rfl trivial)))
    · refine gv_n hq 1 (S' := (39, [some (.ref 116), none, some (.int l2), some (.int l3)], [.int l3], r2.2, E)) rfl ?_
      cases h
      exact ev_ret hq rfl rfl ⟨rfl, rfl, rfl⟩
def g_M_wide_22 (F : Nat) : Nat → Int32 → Int32 → mx_D → Option (Int32 × mx_D) := it (fun k22 => b_M_wide_22 F k22) (fun _ _ _ => none)
set_option maxRecDepth 100000 in
set_option maxHeartbeats 4000000 in
theorem t_M_wide_22 (X : ev_X) (F : Nat) (d : Nat) (hd : 4 ≤ d + 1) (E : mx_E)  : ∀ (n : Nat) (l2 : Int32) (l3 : Int32) (D : mx_D) (v : Int32 × mx_D), g_M_wide_22 F n l2 l3 D = some v → ev X (d + 1) 289 (22, [some (.ref 116), none, some (.int l2), some (.int l3)], [], D, E) (qR (some (.int v.1)) v.2 E) := by
  intro n
  induction n with
  | zero => intro l2 l3 D v h; cases h
  | succ n ih => intro l2 l3 D v h; exact tb_M_wide_22 X F d hd E (g_M_wide_22 F n) ih l2 l3 D v h
def g_M_wide (F : Nat) (a1 : Int32) (a2 : Int32) (D : mx_D) : Option (Int32 × mx_D) := (if (g_M_isYear D a1) = 0 then (some ((-2 : Int32), D)) else (if 0 ≤ a2 then (Option.bind (g_M_layBodies F a1 D) (fun r1 => (g_M_wide_22 F F a2 (nI 0) r1))) else (some ((-2 : Int32), D))))
set_option maxRecDepth 100000 in
set_option maxHeartbeats 4000000 in
theorem t_M_wide (X : ev_X) (F : Nat) (d : Nat) (hd : 4 ≤ d + 1) (E : mx_E) (a1 : Int32) (a2 : Int32) (D : mx_D) (v : Int32 × mx_D) (h : g_M_wide F a1 a2 D = some v) : ev X (d + 1) 289 (0, [some (.ref 116), some (.int a1), some (.int a2), none], [], D, E) (qR (some (.int v.1)) v.2 E) := by
  have hq : kq_m 289 = some kq_q289 := rfl
  unfold g_M_wide at h
  refine gv_n hq 2 (S' := (2, [some (.ref 116), some (.int a1), some (.int a2), none], [.int a1, .ref 116], D, E)) rfl ?_
  refine gv_d hq rfl rfl rfl rfl rfl (gv_dd (by omega) (t_M_isYear X (d - 1) (by omega) D E _ _ rfl)) (S' := (5, [some (.ref 116), some (.int a1), some (.int a2), none], [.int (g_M_isYear D a1)], D, E)) rfl ?_
  refine gv_b hq rfl h 12 8 rfl rfl rfl (fun h => ?_) (fun h => ?_)
  · refine gv_n hq 1 (S' := (14, [some (.ref 116), some (.int a1), some (.int a2), none], [.int (-2 : Int32)], D, E)) rfl ?_
    cases h
    exact ev_ret hq rfl rfl ⟨rfl, rfl, rfl⟩
  · refine gv_n hq 1 (S' := (9, [some (.ref 116), some (.int a1), some (.int a2), none], [.int a2], D, E)) rfl ?_
    refine gv_b hq rfl h 15 12 rfl rfl rfl (fun h => ?_) (fun h => ?_)
    · refine gv_n hq 2 (S' := (17, [some (.ref 116), some (.int a1), some (.int a2), none], [.int a1, .ref 116], D, E)) rfl ?_
      obtain ⟨r1, h1, h⟩ := Option.bind_eq_some_iff.mp h
      refine gv_d hq rfl rfl rfl rfl rfl (gv_dd (by omega) (t_M_layBodies X F (d - 1) (by omega) E _ _ _ h1)) (S' := (20, [some (.ref 116), some (.int a1), some (.int a2), none], [], r1, E)) rfl ?_
      refine gv_n hq 2 (S' := (22, [some (.ref 116), some (.int a1), some (.int a2), some (.int (nI 0))], [], r1, E)) rfl ?_
      exact gv_w (t_M_wide_22 X F d hd E F _ _ _ _ h) (And.intro rfl (And.intro rfl (And.intro rfl trivial)))
    · refine gv_n hq 1 (S' := (14, [some (.ref 116), some (.int a1), some (.int a2), none], [.int (-2 : Int32)], D, E)) rfl ?_
      cases h
      exact ev_ret hq rfl rfl ⟨rfl, rfl, rfl⟩
def b_X_stayingAwayIn_22 (F : Nat) (k22 : Int32 → Int32 → mx_D → Option (Int32 × mx_D)) (l2 : Int32) (l3 : Int32) (D : mx_D) : Option (Int32 × mx_D) := (if (D 34 2) ≤ l3 then (some (l2, D)) else (if (l3 &&& ((D 34 2) ^^^ (-1 : Int32))) = 0 then (if (g_Integer_bitCount l2) ≤ (g_Integer_bitCount l3) then (k22 l2 (l3 + (nI 1)) D) else (Option.bind (g_Heights_apart F D ((D 34 2) &&& (l3 ^^^ (-1 : Int32)))) (fun r2 => (if (D 19 2) < r2 then (k22 l2 (l3 + (nI 1)) D) else (k22 l3 (l3 + (nI 1)) D))))) else (k22 l2 (l3 + (nI 1)) D)))
set_option maxRecDepth 100000 in
set_option maxHeartbeats 4000000 in
theorem tb_X_stayingAwayIn_22 (X : ev_X) (F : Nat) (d : Nat) (hd : 5 ≤ d + 1) (E : mx_E) (k22 : Int32 → Int32 → mx_D → Option (Int32 × mx_D)) (K22 : ∀ (l2 : Int32) (l3 : Int32) (D : mx_D) (v : Int32 × mx_D), k22 l2 l3 D = some v → ev X (d + 1) 151 (22, [some (.ref 0), none, some (.int l2), some (.int l3)], [], D, E) (qR (some (.int v.1)) v.2 E)) (l2 : Int32) (l3 : Int32) (D : mx_D) (v : Int32 × mx_D) (h : b_X_stayingAwayIn_22 F k22 l2 l3 D = some v) : ev X (d + 1) 151 (22, [some (.ref 0), none, some (.int l2), some (.int l3)], [], D, E) (qR (some (.int v.1)) v.2 E) := by
  have hq : kq_m 151 = some kq_q151 := rfl
  unfold b_X_stayingAwayIn_22 at h
  refine gv_n hq 4 (S' := (30, [some (.ref 0), none, some (.int l2), some (.int l3)], [.int (D 34 2), .int l3], D, E)) rfl ?_
  refine gv_b hq rfl h 94 33 rfl rfl rfl (fun h => ?_) (fun h => ?_)
  · refine gv_n hq 1 (S' := (95, [some (.ref 0), none, some (.int l2), some (.int l3)], [.int l2], D, E)) rfl ?_
    cases h
    exact ev_ret hq rfl rfl ⟨rfl, rfl, rfl⟩
  · refine gv_n hq 7 (S' := (44, [some (.ref 0), none, some (.int l2), some (.int l3)], [.int (l3 &&& ((D 34 2) ^^^ (-1 : Int32)))], D, E)) rfl ?_
    refine gv_b hq rfl h 47 88 rfl rfl rfl (fun h => ?_) (fun h => ?_)
    · refine gv_n hq 1 (S' := (48, [some (.ref 0), none, some (.int l2), some (.int l3)], [.int l3], D, E)) rfl ?_
      refine gv_d hq rfl rfl rfl rfl rfl ((t_Integer_bitCount X d D E _ _ rfl)) (S' := (51, [some (.ref 0), none, some (.int l2), some (.int l3)], [.int (g_Integer_bitCount l3)], D, E)) rfl ?_
      refine gv_n hq 1 (S' := (52, [some (.ref 0), none, some (.int l2), some (.int l3)], [.int l2, .int (g_Integer_bitCount l3)], D, E)) rfl ?_
      refine gv_d hq rfl rfl rfl rfl rfl ((t_Integer_bitCount X d D E _ _ rfl)) (S' := (55, [some (.ref 0), none, some (.int l2), some (.int l3)], [.int (g_Integer_bitCount l2), .int (g_Integer_bitCount l3)], D, E)) rfl ?_
      refine gv_b hq rfl h 88 58 rfl rfl rfl (fun h => ?_) (fun h => ?_)
      · refine gv_n hq 2 (S' := (22, [some (.ref 0), none, some (.int l2), some (.int (l3 + (nI 1)))], [], D, E)) rfl ?_
        exact gv_w (K22 _ _ _ _ h) (And.intro rfl (And.intro rfl (And.intro rfl trivial)))
      · refine gv_n hq 9 (S' := (73, [some (.ref 0), none, some (.int l2), some (.int l3)], [.int ((D 34 2) &&& (l3 ^^^ (-1 : Int32))), .ref 34], D, E)) rfl ?_
        obtain ⟨r2, h1, h⟩ := Option.bind_eq_some_iff.mp h
        refine gv_d hq rfl rfl rfl rfl rfl (gv_dd (by omega) (t_Heights_apart X F (d - 1) (by omega) D E _ _ h1)) (S' := (76, [some (.ref 0), none, some (.int l2), some (.int l3)], [.int r2], D, E)) rfl ?_
        refine gv_n hq 3 (S' := (83, [some (.ref 0), none, some (.int l2), some (.int l3)], [.int (D 19 2), .int r2], D, E)) rfl ?_
        refine gv_b hq rfl h 88 86 rfl rfl rfl (fun h => ?_) (fun h => ?_)
        · refine gv_n hq 2 (S' := (22, [some (.ref 0), none, some (.int l2), some (.int (l3 + (nI 1)))], [], D, E)) rfl ?_
          exact gv_w (K22 _ _ _ _ h) (And.intro rfl (And.intro rfl (And.intro rfl trivial)))
        · refine gv_n hq 4 (S' := (22, [some (.ref 0), none, some (.int l3), some (.int (l3 + (nI 1)))], [], D, E)) rfl ?_
          exact gv_w (K22 _ _ _ _ h) (And.intro rfl (And.intro rfl (And.intro rfl trivial)))
    · refine gv_n hq 2 (S' := (22, [some (.ref 0), none, some (.int l2), some (.int (l3 + (nI 1)))], [], D, E)) rfl ?_
      exact gv_w (K22 _ _ _ _ h) (And.intro rfl (And.intro rfl (And.intro rfl trivial)))
def g_X_stayingAwayIn_22 (F : Nat) : Nat → Int32 → Int32 → mx_D → Option (Int32 × mx_D) := it (fun k22 => b_X_stayingAwayIn_22 F k22) (fun _ _ _ => none)
set_option maxRecDepth 100000 in
set_option maxHeartbeats 4000000 in
theorem t_X_stayingAwayIn_22 (X : ev_X) (F : Nat) (d : Nat) (hd : 5 ≤ d + 1) (E : mx_E)  : ∀ (n : Nat) (l2 : Int32) (l3 : Int32) (D : mx_D) (v : Int32 × mx_D), g_X_stayingAwayIn_22 F n l2 l3 D = some v → ev X (d + 1) 151 (22, [some (.ref 0), none, some (.int l2), some (.int l3)], [], D, E) (qR (some (.int v.1)) v.2 E) := by
  intro n
  induction n with
  | zero => intro l2 l3 D v h; cases h
  | succ n ih => intro l2 l3 D v h; exact tb_X_stayingAwayIn_22 X F d hd E (g_X_stayingAwayIn_22 F n) ih l2 l3 D v h
def g_X_stayingAwayIn (F : Nat) (a1 : Int32) (D : mx_D) : Option (Int32 × mx_D) := (Option.bind (g_Heights_take F a1 D) (fun r1 => (g_X_stayingAwayIn_22 F F (r1 34 2) (nI 0) r1)))
set_option maxRecDepth 100000 in
set_option maxHeartbeats 4000000 in
theorem t_X_stayingAwayIn (X : ev_X) (F : Nat) (d : Nat) (hd : 5 ≤ d + 1) (E : mx_E) (a1 : Int32) (D : mx_D) (v : Int32 × mx_D) (h : g_X_stayingAwayIn F a1 D = some v) : ev X (d + 1) 151 (0, [some (.ref 0), some (.int a1), none, none], [], D, E) (qR (some (.int v.1)) v.2 E) := by
  have hq : kq_m 151 = some kq_q151 := rfl
  unfold g_X_stayingAwayIn at h
  refine gv_n hq 5 (S' := (9, [some (.ref 0), some (.int a1), none, none], [.int a1, .ref 19, .ref 34], D, E)) rfl ?_
  obtain ⟨r1, h1, h⟩ := Option.bind_eq_some_iff.mp h
  refine gv_d hq rfl rfl rfl rfl rfl (gv_dd (by omega) (t_Heights_take X F (d - 1) (by omega) E _ _ _ h1)) (S' := (12, [some (.ref 0), some (.int a1), none, none], [], r1, E)) rfl ?_
  refine gv_n hq 6 (S' := (22, [some (.ref 0), some (.int a1), some (.int (r1 34 2)), some (.int (nI 0))], [], r1, E)) rfl ?_
  exact gv_w (t_X_stayingAwayIn_22 X F d hd E F _ _ _ _ h) (And.intro rfl (And.intro rfl (And.intro rfl trivial)))
def g_X_away (F : Nat) (a1 : Int32) (D : mx_D) : Option (Int32 × mx_D) := (if (g_X_canAsk D a1) = 0 then (some ((-2 : Int32), D)) else (Option.bind (g_X_stayingAwayIn F a1 D) (fun r1 => (some ((g_Integer_bitCount r1.1), r1.2)))))
set_option maxRecDepth 100000 in
set_option maxHeartbeats 4000000 in
theorem t_X_away (X : ev_X) (F : Nat) (d : Nat) (hd : 6 ≤ d + 1) (E : mx_E) (a1 : Int32) (D : mx_D) (v : Int32 × mx_D) (h : g_X_away F a1 D = some v) : ev X (d + 1) 150 (0, [some (.ref 0), some (.int a1)], [], D, E) (qR (some (.int v.1)) v.2 E) := by
  have hq : kq_m 150 = some kq_q150 := rfl
  unfold g_X_away at h
  refine gv_n hq 2 (S' := (2, [some (.ref 0), some (.int a1)], [.int a1, .ref 0], D, E)) rfl ?_
  refine gv_d hq rfl rfl rfl rfl rfl (gv_dd (by omega) (t_X_canAsk X (d - 1) (by omega) D E _ _ rfl)) (S' := (5, [some (.ref 0), some (.int a1)], [.int (g_X_canAsk D a1)], D, E)) rfl ?_
  refine gv_b hq rfl h 19 8 rfl rfl rfl (fun h => ?_) (fun h => ?_)
  · refine gv_n hq 1 (S' := (21, [some (.ref 0), some (.int a1)], [.int (-2 : Int32)], D, E)) rfl ?_
    cases h
    exact ev_ret hq rfl rfl ⟨rfl, rfl, rfl⟩
  · refine gv_n hq 2 (S' := (10, [some (.ref 0), some (.int a1)], [.int a1, .ref 0], D, E)) rfl ?_
    obtain ⟨r1, h1, h⟩ := Option.bind_eq_some_iff.mp h
    refine gv_d hq rfl rfl rfl rfl rfl (gv_dd (by omega) (t_X_stayingAwayIn X F (d - 1) (by omega) E _ _ _ h1)) (S' := (13, [some (.ref 0), some (.int a1)], [.int r1.1], r1.2, E)) rfl ?_
    refine gv_d hq rfl rfl rfl rfl rfl ((t_Integer_bitCount X d r1.2 E _ _ rfl)) (S' := (16, [some (.ref 0), some (.int a1)], [.int (g_Integer_bitCount r1.1)], r1.2, E)) rfl ?_
    refine gv_n hq 1 (S' := (21, [some (.ref 0), some (.int a1)], [.int (g_Integer_bitCount r1.1)], r1.2, E)) rfl ?_
    cases h
    exact ev_ret hq rfl rfl ⟨rfl, rfl, rfl⟩
def b_M_awayIn_60 (F : Nat) (k15 : Int32 → Int32 → Int32 → mx_D → Option (Int32 × mx_D)) (l2 : Int32) (l3 : Int32) (l4 : Int32) (D : mx_D) : Option (Int32 × mx_D) := (Option.bind (g_M_unlevel F D (l2 &&& (l4 ^^^ (-1 : Int32)))) (fun r5 => (if (D 117 2) < r5 then (k15 l2 l3 (l4 + (nI 1)) D) else (k15 l2 l4 (l4 + (nI 1)) D))))
set_option maxRecDepth 100000 in
set_option maxHeartbeats 4000000 in
theorem tb_M_awayIn_60 (X : ev_X) (F : Nat) (d : Nat) (hd : 5 ≤ d + 1) (E : mx_E) (k15 : Int32 → Int32 → Int32 → mx_D → Option (Int32 × mx_D)) (K15 : ∀ (l2 : Int32) (l3 : Int32) (l4 : Int32) (D : mx_D) (v : Int32 × mx_D), k15 l2 l3 l4 D = some v → ev X (d + 1) 291 (15, [some (.ref 116), none, some (.int l2), some (.int l3), some (.int l4)], [], D, E) (qR (some (.int v.1)) v.2 E)) (l2 : Int32) (l3 : Int32) (l4 : Int32) (D : mx_D) (v : Int32 × mx_D) (h : b_M_awayIn_60 F k15 l2 l3 l4 D = some v) : ev X (d + 1) 291 (60, [some (.ref 116), none, some (.int l2), some (.int l3), some (.int l4)], [], D, E) (qR (some (.int v.1)) v.2 E) := by
  have hq : kq_m 291 = some kq_q291 := rfl
  unfold b_M_awayIn_60 at h
  refine gv_n hq 6 (S' := (67, [some (.ref 116), none, some (.int l2), some (.int l3), some (.int l4)], [.int (l2 &&& (l4 ^^^ (-1 : Int32))), .ref 116], D, E)) rfl ?_
  obtain ⟨r5, h1, h⟩ := Option.bind_eq_some_iff.mp h
  refine gv_d hq rfl rfl rfl rfl rfl (gv_dd (by omega) (t_M_unlevel X F (d - 1) (by omega) D E _ _ h1)) (S' := (70, [some (.ref 116), none, some (.int l2), some (.int l3), some (.int l4)], [.int r5], D, E)) rfl ?_
  refine gv_n hq 4 (S' := (76, [some (.ref 116), none, some (.int l2), some (.int l3), some (.int l4)], [.int (D 117 2), .int r5], D, E)) rfl ?_
  refine gv_b hq rfl h 82 79 rfl rfl rfl (fun h => ?_) (fun h => ?_)
  · refine gv_n hq 2 (S' := (15, [some (.ref 116), none, some (.int l2), some (.int l3), some (.int (l4 + (nI 1)))], [], D, E)) rfl ?_
    exact gv_w (K15 _ _ _ _ _ h) (And.intro rfl (And.intro rfl (And.intro rfl (And.intro rfl trivial))))
  · refine gv_n hq 4 (S' := (15, [some (.ref 116), none, some (.int l2), some (.int l4), some (.int (l4 + (nI 1)))], [], D, E)) rfl ?_
    exact gv_w (K15 _ _ _ _ _ h) (And.intro rfl (And.intro rfl (And.intro rfl (And.intro rfl trivial))))
def b_M_awayIn_15 (F : Nat) (k15 : Int32 → Int32 → Int32 → mx_D → Option (Int32 × mx_D)) (l2 : Int32) (l3 : Int32) (l4 : Int32) (D : mx_D) : Option (Int32 × mx_D) := (if l2 < l4 then (some (l3, D)) else (if (l4 &&& (l2 ^^^ (-1 : Int32))) = 0 then (Option.bind (g_M_bits F l4) (fun r3 => (Option.bind (g_M_bits F l3) (fun r4 => (if r3 < r4 then (b_M_awayIn_60 F k15 l2 l3 l4 D) else (Option.bind (g_M_bits F l4) (fun r6 => (Option.bind (g_M_bits F l3) (fun r7 => (if r6 = r7 then (if l3 ≤ l4 then (k15 l2 l3 (l4 + (nI 1)) D) else (b_M_awayIn_60 F k15 l2 l3 l4 D)) else (k15 l2 l3 (l4 + (nI 1)) D))))))))))) else (k15 l2 l3 (l4 + (nI 1)) D)))
set_option maxRecDepth 100000 in
set_option maxHeartbeats 4000000 in
theorem tb_M_awayIn_15 (X : ev_X) (F : Nat) (d : Nat) (hd : 5 ≤ d + 1) (E : mx_E) (k15 : Int32 → Int32 → Int32 → mx_D → Option (Int32 × mx_D)) (K15 : ∀ (l2 : Int32) (l3 : Int32) (l4 : Int32) (D : mx_D) (v : Int32 × mx_D), k15 l2 l3 l4 D = some v → ev X (d + 1) 291 (15, [some (.ref 116), none, some (.int l2), some (.int l3), some (.int l4)], [], D, E) (qR (some (.int v.1)) v.2 E)) (l2 : Int32) (l3 : Int32) (l4 : Int32) (D : mx_D) (v : Int32 × mx_D) (h : b_M_awayIn_15 F k15 l2 l3 l4 D = some v) : ev X (d + 1) 291 (15, [some (.ref 116), none, some (.int l2), some (.int l3), some (.int l4)], [], D, E) (qR (some (.int v.1)) v.2 E) := by
  have hq : kq_m 291 = some kq_q291 := rfl
  unfold b_M_awayIn_15 at h
  refine gv_n hq 2 (S' := (18, [some (.ref 116), none, some (.int l2), some (.int l3), some (.int l4)], [.int l2, .int l4], D, E)) rfl ?_
  refine gv_b hq rfl h 88 21 rfl rfl rfl (fun h => ?_) (fun h => ?_)
  · refine gv_n hq 1 (S' := (89, [some (.ref 116), none, some (.int l2), some (.int l3), some (.int l4)], [.int l3], D, E)) rfl ?_
    cases h
    exact ev_ret hq rfl rfl ⟨rfl, rfl, rfl⟩
  · refine gv_n hq 5 (S' := (27, [some (.ref 116), none, some (.int l2), some (.int l3), some (.int l4)], [.int (l4 &&& (l2 ^^^ (-1 : Int32)))], D, E)) rfl ?_
    refine gv_b hq rfl h 30 82 rfl rfl rfl (fun h => ?_) (fun h => ?_)
    · refine gv_n hq 1 (S' := (32, [some (.ref 116), none, some (.int l2), some (.int l3), some (.int l4)], [.int l4], D, E)) rfl ?_
      obtain ⟨r3, h1, h⟩ := Option.bind_eq_some_iff.mp h
      refine gv_d hq rfl rfl rfl rfl rfl ((t_M_bits X F d D E _ _ h1)) (S' := (35, [some (.ref 116), none, some (.int l2), some (.int l3), some (.int l4)], [.int r3], D, E)) rfl ?_
      refine gv_n hq 1 (S' := (36, [some (.ref 116), none, some (.int l2), some (.int l3), some (.int l4)], [.int l3, .int r3], D, E)) rfl ?_
      obtain ⟨r4, h1, h⟩ := Option.bind_eq_some_iff.mp h
      refine gv_d hq rfl rfl rfl rfl rfl ((t_M_bits X F d D E _ _ h1)) (S' := (39, [some (.ref 116), none, some (.int l2), some (.int l3), some (.int l4)], [.int r4, .int r3], D, E)) rfl ?_
      refine gv_b hq rfl h 60 42 rfl rfl rfl (fun h => ?_) (fun h => ?_)
      · exact gv_w (tb_M_awayIn_60 X F d hd E k15 K15 _ _ _ _ _ h) (And.intro rfl (And.intro rfl (And.intro rfl (And.intro rfl trivial))))
      · refine gv_n hq 1 (S' := (44, [some (.ref 116), none, some (.int l2), some (.int l3), some (.int l4)], [.int l4], D, E)) rfl ?_
        obtain ⟨r6, h1, h⟩ := Option.bind_eq_some_iff.mp h
        refine gv_d hq rfl rfl rfl rfl rfl ((t_M_bits X F d D E _ _ h1)) (S' := (47, [some (.ref 116), none, some (.int l2), some (.int l3), some (.int l4)], [.int r6], D, E)) rfl ?_
        refine gv_n hq 1 (S' := (48, [some (.ref 116), none, some (.int l2), some (.int l3), some (.int l4)], [.int l3, .int r6], D, E)) rfl ?_
        obtain ⟨r7, h1, h⟩ := Option.bind_eq_some_iff.mp h
        refine gv_d hq rfl rfl rfl rfl rfl ((t_M_bits X F d D E _ _ h1)) (S' := (51, [some (.ref 116), none, some (.int l2), some (.int l3), some (.int l4)], [.int r7, .int r6], D, E)) rfl ?_
        refine gv_b hq rfl h 54 82 rfl rfl rfl (fun h => ?_) (fun h => ?_)
        · refine gv_n hq 2 (S' := (57, [some (.ref 116), none, some (.int l2), some (.int l3), some (.int l4)], [.int l3, .int l4], D, E)) rfl ?_
          refine gv_b hq rfl h 82 60 rfl rfl rfl (fun h => ?_) (fun h => ?_)
          · refine gv_n hq 2 (S' := (15, [some (.ref 116), none, some (.int l2), some (.int l3), some (.int (l4 + (nI 1)))], [], D, E)) rfl ?_
            exact gv_w (K15 _ _ _ _ _ h) (And.intro rfl (And.intro rfl (And.intro rfl (And.intro rfl trivial))))
          · exact gv_w (tb_M_awayIn_60 X F d hd E k15 K15 _ _ _ _ _ h) (And.intro rfl (And.intro rfl (And.intro rfl (And.intro rfl trivial))))
        · refine gv_n hq 2 (S' := (15, [some (.ref 116), none, some (.int l2), some (.int l3), some (.int (l4 + (nI 1)))], [], D, E)) rfl ?_
          exact gv_w (K15 _ _ _ _ _ h) (And.intro rfl (And.intro rfl (And.intro rfl (And.intro rfl trivial))))
    · refine gv_n hq 2 (S' := (15, [some (.ref 116), none, some (.int l2), some (.int l3), some (.int (l4 + (nI 1)))], [], D, E)) rfl ?_
      exact gv_w (K15 _ _ _ _ _ h) (And.intro rfl (And.intro rfl (And.intro rfl (And.intro rfl trivial))))
def g_M_awayIn_15 (F : Nat) : Nat → Int32 → Int32 → Int32 → mx_D → Option (Int32 × mx_D) := it (fun k15 => b_M_awayIn_15 F k15) (fun _ _ _ _ => none)
set_option maxRecDepth 100000 in
set_option maxHeartbeats 4000000 in
theorem t_M_awayIn_15 (X : ev_X) (F : Nat) (d : Nat) (hd : 5 ≤ d + 1) (E : mx_E)  : ∀ (n : Nat) (l2 : Int32) (l3 : Int32) (l4 : Int32) (D : mx_D) (v : Int32 × mx_D), g_M_awayIn_15 F n l2 l3 l4 D = some v → ev X (d + 1) 291 (15, [some (.ref 116), none, some (.int l2), some (.int l3), some (.int l4)], [], D, E) (qR (some (.int v.1)) v.2 E) := by
  intro n
  induction n with
  | zero => intro l2 l3 l4 D v h; cases h
  | succ n ih => intro l2 l3 l4 D v h; exact tb_M_awayIn_15 X F d hd E (g_M_awayIn_15 F n) ih l2 l3 l4 D v h
def g_M_awayIn (F : Nat) (a1 : Int32) (D : mx_D) : Option (Int32 × mx_D) := (Option.bind (g_M_lay F a1 D) (fun r1 => (Option.bind (g_M_sitters F r1) (fun r2 => (g_M_awayIn_15 F F r2 r2 (nI 0) r1)))))
set_option maxRecDepth 100000 in
set_option maxHeartbeats 4000000 in
theorem t_M_awayIn (X : ev_X) (F : Nat) (d : Nat) (hd : 5 ≤ d + 1) (E : mx_E) (a1 : Int32) (D : mx_D) (v : Int32 × mx_D) (h : g_M_awayIn F a1 D = some v) : ev X (d + 1) 291 (0, [some (.ref 116), some (.int a1), none, none, none], [], D, E) (qR (some (.int v.1)) v.2 E) := by
  have hq : kq_m 291 = some kq_q291 := rfl
  unfold g_M_awayIn at h
  refine gv_n hq 2 (S' := (2, [some (.ref 116), some (.int a1), none, none, none], [.int a1, .ref 116], D, E)) rfl ?_
  obtain ⟨r1, h1, h⟩ := Option.bind_eq_some_iff.mp h
  refine gv_d hq rfl rfl rfl rfl rfl (gv_dd (by omega) (t_M_lay X F (d - 1) (by omega) E _ _ _ h1)) (S' := (5, [some (.ref 116), some (.int a1), none, none, none], [], r1, E)) rfl ?_
  refine gv_n hq 1 (S' := (6, [some (.ref 116), some (.int a1), none, none, none], [.ref 116], r1, E)) rfl ?_
  obtain ⟨r2, h1, h⟩ := Option.bind_eq_some_iff.mp h
  refine gv_d hq rfl rfl rfl rfl rfl (gv_dd (by omega) (t_M_sitters X F (d - 1) (by omega) r1 E _ h1)) (S' := (9, [some (.ref 116), some (.int a1), none, none, none], [.int r2], r1, E)) rfl ?_
  refine gv_n hq 5 (S' := (15, [some (.ref 116), some (.int a1), some (.int r2), some (.int r2), some (.int (nI 0))], [], r1, E)) rfl ?_
  exact gv_w (t_M_awayIn_15 X F d hd E F _ _ _ _ _ h) (And.intro rfl (And.intro rfl (And.intro rfl (And.intro rfl trivial))))
def g_M_away (F : Nat) (a1 : Int32) (D : mx_D) : Option (Int32 × mx_D) := (if (g_M_isYear D a1) = 0 then (some ((-2 : Int32), D)) else (Option.bind (g_M_awayIn F a1 D) (fun r1 => (Option.bind (g_M_bits F r1.1) (fun r2 => (some (r2, r1.2)))))))
set_option maxRecDepth 100000 in
set_option maxHeartbeats 4000000 in
theorem t_M_away (X : ev_X) (F : Nat) (d : Nat) (hd : 6 ≤ d + 1) (E : mx_E) (a1 : Int32) (D : mx_D) (v : Int32 × mx_D) (h : g_M_away F a1 D = some v) : ev X (d + 1) 290 (0, [some (.ref 116), some (.int a1)], [], D, E) (qR (some (.int v.1)) v.2 E) := by
  have hq : kq_m 290 = some kq_q290 := rfl
  unfold g_M_away at h
  refine gv_n hq 2 (S' := (2, [some (.ref 116), some (.int a1)], [.int a1, .ref 116], D, E)) rfl ?_
  refine gv_d hq rfl rfl rfl rfl rfl (gv_dd (by omega) (t_M_isYear X (d - 1) (by omega) D E _ _ rfl)) (S' := (5, [some (.ref 116), some (.int a1)], [.int (g_M_isYear D a1)], D, E)) rfl ?_
  refine gv_b hq rfl h 19 8 rfl rfl rfl (fun h => ?_) (fun h => ?_)
  · refine gv_n hq 1 (S' := (21, [some (.ref 116), some (.int a1)], [.int (-2 : Int32)], D, E)) rfl ?_
    cases h
    exact ev_ret hq rfl rfl ⟨rfl, rfl, rfl⟩
  · refine gv_n hq 2 (S' := (10, [some (.ref 116), some (.int a1)], [.int a1, .ref 116], D, E)) rfl ?_
    obtain ⟨r1, h1, h⟩ := Option.bind_eq_some_iff.mp h
    refine gv_d hq rfl rfl rfl rfl rfl (gv_dd (by omega) (t_M_awayIn X F (d - 1) (by omega) E _ _ _ h1)) (S' := (13, [some (.ref 116), some (.int a1)], [.int r1.1], r1.2, E)) rfl ?_
    obtain ⟨r2, h1, h⟩ := Option.bind_eq_some_iff.mp h
    refine gv_d hq rfl rfl rfl rfl rfl ((t_M_bits X F d r1.2 E _ _ h1)) (S' := (16, [some (.ref 116), some (.int a1)], [.int r2], r1.2, E)) rfl ?_
    refine gv_n hq 1 (S' := (21, [some (.ref 116), some (.int a1)], [.int r2], r1.2, E)) rfl ?_
    cases h
    exact ev_ret hq rfl rfl ⟨rfl, rfl, rfl⟩
def g_X_stay (F : Nat) (a1 : Int32) (D : mx_D) : Option (Int32 × mx_D) := (if (g_X_canAsk D a1) = 0 then (some ((-2 : Int32), D)) else (Option.bind (g_X_stayingAwayIn F a1 D) (fun r1 => (some (r1.1, r1.2)))))
set_option maxRecDepth 100000 in
set_option maxHeartbeats 4000000 in
theorem t_X_stay (X : ev_X) (F : Nat) (d : Nat) (hd : 6 ≤ d + 1) (E : mx_E) (a1 : Int32) (D : mx_D) (v : Int32 × mx_D) (h : g_X_stay F a1 D = some v) : ev X (d + 1) 152 (0, [some (.ref 0), some (.int a1)], [], D, E) (qR (some (.int v.1)) v.2 E) := by
  have hq : kq_m 152 = some kq_q152 := rfl
  unfold g_X_stay at h
  refine gv_n hq 2 (S' := (2, [some (.ref 0), some (.int a1)], [.int a1, .ref 0], D, E)) rfl ?_
  refine gv_d hq rfl rfl rfl rfl rfl (gv_dd (by omega) (t_X_canAsk X (d - 1) (by omega) D E _ _ rfl)) (S' := (5, [some (.ref 0), some (.int a1)], [.int (g_X_canAsk D a1)], D, E)) rfl ?_
  refine gv_b hq rfl h 16 8 rfl rfl rfl (fun h => ?_) (fun h => ?_)
  · refine gv_n hq 1 (S' := (18, [some (.ref 0), some (.int a1)], [.int (-2 : Int32)], D, E)) rfl ?_
    cases h
    exact ev_ret hq rfl rfl ⟨rfl, rfl, rfl⟩
  · refine gv_n hq 2 (S' := (10, [some (.ref 0), some (.int a1)], [.int a1, .ref 0], D, E)) rfl ?_
    obtain ⟨r1, h1, h⟩ := Option.bind_eq_some_iff.mp h
    refine gv_d hq rfl rfl rfl rfl rfl (gv_dd (by omega) (t_X_stayingAwayIn X F (d - 1) (by omega) E _ _ _ h1)) (S' := (13, [some (.ref 0), some (.int a1)], [.int r1.1], r1.2, E)) rfl ?_
    refine gv_n hq 1 (S' := (18, [some (.ref 0), some (.int a1)], [.int r1.1], r1.2, E)) rfl ?_
    cases h
    exact ev_ret hq rfl rfl ⟨rfl, rfl, rfl⟩
def g_M_stay (F : Nat) (a1 : Int32) (D : mx_D) : Option (Int32 × mx_D) := (if (g_M_isYear D a1) = 0 then (some ((-2 : Int32), D)) else (Option.bind (g_M_awayIn F a1 D) (fun r1 => (some (r1.1, r1.2)))))
set_option maxRecDepth 100000 in
set_option maxHeartbeats 4000000 in
theorem t_M_stay (X : ev_X) (F : Nat) (d : Nat) (hd : 6 ≤ d + 1) (E : mx_E) (a1 : Int32) (D : mx_D) (v : Int32 × mx_D) (h : g_M_stay F a1 D = some v) : ev X (d + 1) 292 (0, [some (.ref 116), some (.int a1)], [], D, E) (qR (some (.int v.1)) v.2 E) := by
  have hq : kq_m 292 = some kq_q292 := rfl
  unfold g_M_stay at h
  refine gv_n hq 2 (S' := (2, [some (.ref 116), some (.int a1)], [.int a1, .ref 116], D, E)) rfl ?_
  refine gv_d hq rfl rfl rfl rfl rfl (gv_dd (by omega) (t_M_isYear X (d - 1) (by omega) D E _ _ rfl)) (S' := (5, [some (.ref 116), some (.int a1)], [.int (g_M_isYear D a1)], D, E)) rfl ?_
  refine gv_b hq rfl h 16 8 rfl rfl rfl (fun h => ?_) (fun h => ?_)
  · refine gv_n hq 1 (S' := (18, [some (.ref 116), some (.int a1)], [.int (-2 : Int32)], D, E)) rfl ?_
    cases h
    exact ev_ret hq rfl rfl ⟨rfl, rfl, rfl⟩
  · refine gv_n hq 2 (S' := (10, [some (.ref 116), some (.int a1)], [.int a1, .ref 116], D, E)) rfl ?_
    obtain ⟨r1, h1, h⟩ := Option.bind_eq_some_iff.mp h
    refine gv_d hq rfl rfl rfl rfl rfl (gv_dd (by omega) (t_M_awayIn X F (d - 1) (by omega) E _ _ _ h1)) (S' := (13, [some (.ref 116), some (.int a1)], [.int r1.1], r1.2, E)) rfl ?_
    refine gv_n hq 1 (S' := (18, [some (.ref 116), some (.int a1)], [.int r1.1], r1.2, E)) rfl ?_
    cases h
    exact ev_ret hq rfl rfl ⟨rfl, rfl, rfl⟩
def b_X_stilts_26 (F : Nat) (k26 : Int32 → Int32 → mx_D → Option (Int32 × mx_D)) (l1 : Int32) (l3 : Int32) (D : mx_D) : Option (Int32 × mx_D) := (if (nI 99) < l3 then (some ((-1 : Int32), D)) else (Option.bind (g_X_allAreLevel F D) (fun r3 => (if r3 = 0 then (rk 8 l1 (rk 8 l1 (k26 l1 (l3 + (nI 1)) (sD D 35 (l1).toNatClampNeg ((D 35 (l1).toNatClampNeg) + (nI 1)))))) else (some (l3, D))))))
set_option maxRecDepth 100000 in
set_option maxHeartbeats 4000000 in
theorem tb_X_stilts_26 (X : ev_X) (F : Nat) (d : Nat) (hd : 5 ≤ d + 1) (E : mx_E) (k26 : Int32 → Int32 → mx_D → Option (Int32 × mx_D)) (K26 : ∀ (l1 : Int32) (l3 : Int32) (D : mx_D) (v : Int32 × mx_D), k26 l1 l3 D = some v → ev X (d + 1) 153 (26, [some (.ref 0), some (.int l1), none, some (.int l3)], [], D, E) (qR (some (.int v.1)) v.2 E)) (l1 : Int32) (l3 : Int32) (D : mx_D) (v : Int32 × mx_D) (h : b_X_stilts_26 F k26 l1 l3 D = some v) : ev X (d + 1) 153 (26, [some (.ref 0), some (.int l1), none, some (.int l3)], [], D, E) (qR (some (.int v.1)) v.2 E) := by
  have hq : kq_m 153 = some kq_q153 := rfl
  unfold b_X_stilts_26 at h
  refine gv_n hq 2 (S' := (29, [some (.ref 0), some (.int l1), none, some (.int l3)], [.int (nI 99), .int l3], D, E)) rfl ?_
  refine gv_b hq rfl h 60 32 rfl rfl rfl (fun h => ?_) (fun h => ?_)
  · refine gv_n hq 1 (S' := (61, [some (.ref 0), some (.int l1), none, some (.int l3)], [.int (-1 : Int32)], D, E)) rfl ?_
    cases h
    exact ev_ret hq rfl rfl ⟨rfl, rfl, rfl⟩
  · refine gv_n hq 1 (S' := (33, [some (.ref 0), some (.int l1), none, some (.int l3)], [.ref 0], D, E)) rfl ?_
    obtain ⟨r3, h1, h⟩ := Option.bind_eq_some_iff.mp h
    refine gv_d hq rfl rfl rfl rfl rfl (gv_dd (by omega) (t_X_allAreLevel X F (d - 1) (by omega) D E _ h1)) (S' := (36, [some (.ref 0), some (.int l1), none, some (.int l3)], [.int r3], D, E)) rfl ?_
    refine gv_b hq rfl h 41 39 rfl rfl rfl (fun h => ?_) (fun h => ?_)
    · refine gv_n hq 5 (S' := (50, [some (.ref 0), some (.int l1), none, some (.int l3)], [.int l1, .ref 35, .int l1, .ref 35], D, E)) rfl ?_
      refine gv_ia hq rfl rfl rfl h 51 rfl (fun h => ?_)
      refine gv_n hq 2 (S' := (53, [some (.ref 0), some (.int l1), none, some (.int l3)], [.int ((D 35 (l1).toNatClampNeg) + (nI 1)), .int l1, .ref 35], D, E)) rfl ?_
      refine gv_is hq rfl rfl h 54 rfl (fun h => ?_)
      refine gv_n hq 2 (S' := (26, [some (.ref 0), some (.int l1), none, some (.int (l3 + (nI 1)))], [], (sD D 35 (l1).toNatClampNeg ((D 35 (l1).toNatClampNeg) + (nI 1))), E)) rfl ?_
      exact gv_w (K26 _ _ _ _ h) (And.intro rfl (And.intro rfl (And.intro rfl trivial)))
    · refine gv_n hq 1 (S' := (40, [some (.ref 0), some (.int l1), none, some (.int l3)], [.int l3], D, E)) rfl ?_
      cases h
      exact ev_ret hq rfl rfl ⟨rfl, rfl, rfl⟩
def g_X_stilts_26 (F : Nat) : Nat → Int32 → Int32 → mx_D → Option (Int32 × mx_D) := it (fun k26 => b_X_stilts_26 F k26) (fun _ _ _ => none)
set_option maxRecDepth 100000 in
set_option maxHeartbeats 4000000 in
theorem t_X_stilts_26 (X : ev_X) (F : Nat) (d : Nat) (hd : 5 ≤ d + 1) (E : mx_E)  : ∀ (n : Nat) (l1 : Int32) (l3 : Int32) (D : mx_D) (v : Int32 × mx_D), g_X_stilts_26 F n l1 l3 D = some v → ev X (d + 1) 153 (26, [some (.ref 0), some (.int l1), none, some (.int l3)], [], D, E) (qR (some (.int v.1)) v.2 E) := by
  intro n
  induction n with
  | zero => intro l1 l3 D v h; cases h
  | succ n ih => intro l1 l3 D v h; exact tb_X_stilts_26 X F d hd E (g_X_stilts_26 F n) ih l1 l3 D v h
def g_X_stilts (F : Nat) (a1 : Int32) (a2 : Int32) (D : mx_D) : Option (Int32 × mx_D) := (Option.bind (g_X_canAskOfSitter D a1 a2) (fun r1 => (if r1 = 0 then (some ((-2 : Int32), D)) else (Option.bind (g_Heights_take F a2 D) (fun r2 => (g_X_stilts_26 F F a1 (nI 0) r2))))))
set_option maxRecDepth 100000 in
set_option maxHeartbeats 4000000 in
theorem t_X_stilts (X : ev_X) (F : Nat) (d : Nat) (hd : 5 ≤ d + 1) (E : mx_E) (a1 : Int32) (a2 : Int32) (D : mx_D) (v : Int32 × mx_D) (h : g_X_stilts F a1 a2 D = some v) : ev X (d + 1) 153 (0, [some (.ref 0), some (.int a1), some (.int a2), none], [], D, E) (qR (some (.int v.1)) v.2 E) := by
  have hq : kq_m 153 = some kq_q153 := rfl
  unfold g_X_stilts at h
  refine gv_n hq 3 (S' := (3, [some (.ref 0), some (.int a1), some (.int a2), none], [.int a2, .int a1, .ref 0], D, E)) rfl ?_
  obtain ⟨r1, h1, h⟩ := Option.bind_eq_some_iff.mp h
  refine gv_d hq rfl rfl rfl rfl rfl (gv_dd (by omega) (t_X_canAskOfSitter X (d - 1) (by omega) D E _ _ _ h1)) (S' := (6, [some (.ref 0), some (.int a1), some (.int a2), none], [.int r1], D, E)) rfl ?_
  refine gv_b hq rfl h 9 12 rfl rfl rfl (fun h => ?_) (fun h => ?_)
  · refine gv_n hq 1 (S' := (11, [some (.ref 0), some (.int a1), some (.int a2), none], [.int (-2 : Int32)], D, E)) rfl ?_
    cases h
    exact ev_ret hq rfl rfl ⟨rfl, rfl, rfl⟩
  · refine gv_n hq 5 (S' := (21, [some (.ref 0), some (.int a1), some (.int a2), none], [.int a2, .ref 19, .ref 34], D, E)) rfl ?_
    obtain ⟨r2, h1, h⟩ := Option.bind_eq_some_iff.mp h
    refine gv_d hq rfl rfl rfl rfl rfl (gv_dd (by omega) (t_Heights_take X F (d - 1) (by omega) E _ _ _ h1)) (S' := (24, [some (.ref 0), some (.int a1), some (.int a2), none], [], r2, E)) rfl ?_
    refine gv_n hq 2 (S' := (26, [some (.ref 0), some (.int a1), some (.int a2), some (.int (nI 0))], [], r2, E)) rfl ?_
    exact gv_w (t_X_stilts_26 X F d hd E F _ _ _ _ h) (And.intro rfl (And.intro rfl (And.intro rfl trivial)))
def g_M_isLevelBy (F : Nat) (a1 : Int32) (a2 : Int32) (a3 : Int32) (D : mx_D) : Option (Int32 × mx_D) := (Option.bind (g_M_lay F a2 D) (fun r1 => (rk 8 a1 (rk 8 a1 (Option.bind (g_M_sitters F (sD r1 123 (a1).toNatClampNeg ((r1 123 (a1).toNatClampNeg) + a3))) (fun r2 => (Option.bind (g_M_unlevel F (sD r1 123 (a1).toNatClampNeg ((r1 123 (a1).toNatClampNeg) + a3)) r2) (fun r3 => (if ((sD r1 123 (a1).toNatClampNeg ((r1 123 (a1).toNatClampNeg) + a3)) 117 2) < r3 then (some ((nI 0), (sD r1 123 (a1).toNatClampNeg ((r1 123 (a1).toNatClampNeg) + a3)))) else (some ((nI 1), (sD r1 123 (a1).toNatClampNeg ((r1 123 (a1).toNatClampNeg) + a3)))))))))))))
set_option maxRecDepth 100000 in
set_option maxHeartbeats 4000000 in
theorem t_M_isLevelBy (X : ev_X) (F : Nat) (d : Nat) (hd : 5 ≤ d + 1) (E : mx_E) (a1 : Int32) (a2 : Int32) (a3 : Int32) (D : mx_D) (v : Int32 × mx_D) (h : g_M_isLevelBy F a1 a2 a3 D = some v) : ev X (d + 1) 294 (0, [some (.ref 116), some (.int a1), some (.int a2), some (.int a3)], [], D, E) (qR (some (.int v.1)) v.2 E) := by
  have hq : kq_m 294 = some kq_q294 := rfl
  unfold g_M_isLevelBy at h
  refine gv_n hq 2 (S' := (2, [some (.ref 116), some (.int a1), some (.int a2), some (.int a3)], [.int a2, .ref 116], D, E)) rfl ?_
  obtain ⟨r1, h1, h⟩ := Option.bind_eq_some_iff.mp h
  refine gv_d hq rfl rfl rfl rfl rfl (gv_dd (by omega) (t_M_lay X F (d - 1) (by omega) E _ _ _ h1)) (S' := (5, [some (.ref 116), some (.int a1), some (.int a2), some (.int a3)], [], r1, E)) rfl ?_
  refine gv_n hq 4 (S' := (11, [some (.ref 116), some (.int a1), some (.int a2), some (.int a3)], [.int a1, .ref 123, .int a1, .ref 123], r1, E)) rfl ?_
  refine gv_ia hq rfl rfl rfl h 12 rfl (fun h => ?_)
  refine gv_n hq 2 (S' := (14, [some (.ref 116), some (.int a1), some (.int a2), some (.int a3)], [.int ((r1 123 (a1).toNatClampNeg) + a3), .int a1, .ref 123], r1, E)) rfl ?_
  refine gv_is hq rfl rfl h 15 rfl (fun h => ?_)
  refine gv_n hq 2 (S' := (17, [some (.ref 116), some (.int a1), some (.int a2), some (.int a3)], [.ref 116, .ref 116], (sD r1 123 (a1).toNatClampNeg ((r1 123 (a1).toNatClampNeg) + a3)), E)) rfl ?_
  obtain ⟨r2, h1, h⟩ := Option.bind_eq_some_iff.mp h
  refine gv_d hq rfl rfl rfl rfl rfl (gv_dd (by omega) (t_M_sitters X F (d - 1) (by omega) (sD r1 123 (a1).toNatClampNeg ((r1 123 (a1).toNatClampNeg) + a3)) E _ h1)) (S' := (20, [some (.ref 116), some (.int a1), some (.int a2), some (.int a3)], [.int r2, .ref 116], (sD r1 123 (a1).toNatClampNeg ((r1 123 (a1).toNatClampNeg) + a3)), E)) rfl ?_
  obtain ⟨r3, h1, h⟩ := Option.bind_eq_some_iff.mp h
  refine gv_d hq rfl rfl rfl rfl rfl (gv_dd (by omega) (t_M_unlevel X F (d - 1) (by omega) (sD r1 123 (a1).toNatClampNeg ((r1 123 (a1).toNatClampNeg) + a3)) E _ _ h1)) (S' := (23, [some (.ref 116), some (.int a1), some (.int a2), some (.int a3)], [.int r3], (sD r1 123 (a1).toNatClampNeg ((r1 123 (a1).toNatClampNeg) + a3)), E)) rfl ?_
  refine gv_n hq 4 (S' := (29, [some (.ref 116), some (.int a1), some (.int a2), some (.int a3)], [.int ((sD r1 123 (a1).toNatClampNeg ((r1 123 (a1).toNatClampNeg) + a3)) 117 2), .int r3], (sD r1 123 (a1).toNatClampNeg ((r1 123 (a1).toNatClampNeg) + a3)), E)) rfl ?_
  refine gv_b hq rfl h 36 32 rfl rfl rfl (fun h => ?_) (fun h => ?_)
  · refine gv_n hq 1 (S' := (37, [some (.ref 116), some (.int a1), some (.int a2), some (.int a3)], [.int (nI 0)], (sD r1 123 (a1).toNatClampNeg ((r1 123 (a1).toNatClampNeg) + a3)), E)) rfl ?_
    cases h
    exact ev_ret hq rfl rfl ⟨rfl, rfl, rfl⟩
  · refine gv_n hq 2 (S' := (37, [some (.ref 116), some (.int a1), some (.int a2), some (.int a3)], [.int (nI 1)], (sD r1 123 (a1).toNatClampNeg ((r1 123 (a1).toNatClampNeg) + a3)), E)) rfl ?_
    cases h
    exact ev_ret hq rfl rfl ⟨rfl, rfl, rfl⟩
def b_M_stilts_14 (F : Nat) (k14 : Int32 → Int32 → Int32 → mx_D → Option (Int32 × mx_D)) (l1 : Int32) (l2 : Int32) (l3 : Int32) (D : mx_D) : Option (Int32 × mx_D) := (if (nI 100) ≤ l3 then (some ((-1 : Int32), D)) else (Option.bind (g_M_isLevelBy F l1 l2 l3 D) (fun r2 => (if r2.1 = 0 then (k14 l1 l2 (l3 + (nI 1)) r2.2) else (some (l3, r2.2))))))
set_option maxRecDepth 100000 in
set_option maxHeartbeats 4000000 in
theorem tb_M_stilts_14 (X : ev_X) (F : Nat) (d : Nat) (hd : 6 ≤ d + 1) (E : mx_E) (k14 : Int32 → Int32 → Int32 → mx_D → Option (Int32 × mx_D)) (K14 : ∀ (l1 : Int32) (l2 : Int32) (l3 : Int32) (D : mx_D) (v : Int32 × mx_D), k14 l1 l2 l3 D = some v → ev X (d + 1) 293 (14, [some (.ref 116), some (.int l1), some (.int l2), some (.int l3)], [], D, E) (qR (some (.int v.1)) v.2 E)) (l1 : Int32) (l2 : Int32) (l3 : Int32) (D : mx_D) (v : Int32 × mx_D) (h : b_M_stilts_14 F k14 l1 l2 l3 D = some v) : ev X (d + 1) 293 (14, [some (.ref 116), some (.int l1), some (.int l2), some (.int l3)], [], D, E) (qR (some (.int v.1)) v.2 E) := by
  have hq : kq_m 293 = some kq_q293 := rfl
  unfold b_M_stilts_14 at h
  refine gv_n hq 2 (S' := (17, [some (.ref 116), some (.int l1), some (.int l2), some (.int l3)], [.int (nI 100), .int l3], D, E)) rfl ?_
  refine gv_b hq rfl h 38 20 rfl rfl rfl (fun h => ?_) (fun h => ?_)
  · refine gv_n hq 1 (S' := (39, [some (.ref 116), some (.int l1), some (.int l2), some (.int l3)], [.int (-1 : Int32)], D, E)) rfl ?_
    cases h
    exact ev_ret hq rfl rfl ⟨rfl, rfl, rfl⟩
  · refine gv_n hq 4 (S' := (24, [some (.ref 116), some (.int l1), some (.int l2), some (.int l3)], [.int l3, .int l2, .int l1, .ref 116], D, E)) rfl ?_
    obtain ⟨r2, h1, h⟩ := Option.bind_eq_some_iff.mp h
    refine gv_d hq rfl rfl rfl rfl rfl (gv_dd (by omega) (t_M_isLevelBy X F (d - 1) (by omega) E _ _ _ _ _ h1)) (S' := (27, [some (.ref 116), some (.int l1), some (.int l2), some (.int l3)], [.int r2.1], r2.2, E)) rfl ?_
    refine gv_b hq rfl h 32 30 rfl rfl rfl (fun h => ?_) (fun h => ?_)
    · refine gv_n hq 2 (S' := (14, [some (.ref 116), some (.int l1), some (.int l2), some (.int (l3 + (nI 1)))], [], r2.2, E)) rfl ?_
      exact gv_w (K14 _ _ _ _ _ h) (And.intro rfl (And.intro rfl (And.intro rfl (And.intro rfl trivial))))
    · refine gv_n hq 1 (S' := (31, [some (.ref 116), some (.int l1), some (.int l2), some (.int l3)], [.int l3], r2.2, E)) rfl ?_
      cases h
      exact ev_ret hq rfl rfl ⟨rfl, rfl, rfl⟩
def g_M_stilts_14 (F : Nat) : Nat → Int32 → Int32 → Int32 → mx_D → Option (Int32 × mx_D) := it (fun k14 => b_M_stilts_14 F k14) (fun _ _ _ _ => none)
set_option maxRecDepth 100000 in
set_option maxHeartbeats 4000000 in
theorem t_M_stilts_14 (X : ev_X) (F : Nat) (d : Nat) (hd : 6 ≤ d + 1) (E : mx_E)  : ∀ (n : Nat) (l1 : Int32) (l2 : Int32) (l3 : Int32) (D : mx_D) (v : Int32 × mx_D), g_M_stilts_14 F n l1 l2 l3 D = some v → ev X (d + 1) 293 (14, [some (.ref 116), some (.int l1), some (.int l2), some (.int l3)], [], D, E) (qR (some (.int v.1)) v.2 E) := by
  intro n
  induction n with
  | zero => intro l1 l2 l3 D v h; cases h
  | succ n ih => intro l1 l2 l3 D v h; exact tb_M_stilts_14 X F d hd E (g_M_stilts_14 F n) ih l1 l2 l3 D v h
def g_M_stilts (F : Nat) (a1 : Int32) (a2 : Int32) (D : mx_D) : Option (Int32 × mx_D) := (Option.bind (g_M_isSitter D a1 a2) (fun r1 => (if r1 = 0 then (some ((-2 : Int32), D)) else (g_M_stilts_14 F F a1 a2 (nI 0) D))))
set_option maxRecDepth 100000 in
set_option maxHeartbeats 4000000 in
theorem t_M_stilts (X : ev_X) (F : Nat) (d : Nat) (hd : 6 ≤ d + 1) (E : mx_E) (a1 : Int32) (a2 : Int32) (D : mx_D) (v : Int32 × mx_D) (h : g_M_stilts F a1 a2 D = some v) : ev X (d + 1) 293 (0, [some (.ref 116), some (.int a1), some (.int a2), none], [], D, E) (qR (some (.int v.1)) v.2 E) := by
  have hq : kq_m 293 = some kq_q293 := rfl
  unfold g_M_stilts at h
  refine gv_n hq 3 (S' := (3, [some (.ref 116), some (.int a1), some (.int a2), none], [.int a2, .int a1, .ref 116], D, E)) rfl ?_
  obtain ⟨r1, h1, h⟩ := Option.bind_eq_some_iff.mp h
  refine gv_d hq rfl rfl rfl rfl rfl (gv_dd (by omega) (t_M_isSitter X (d - 1) (by omega) D E _ _ _ h1)) (S' := (6, [some (.ref 116), some (.int a1), some (.int a2), none], [.int r1], D, E)) rfl ?_
  refine gv_b hq rfl h 9 12 rfl rfl rfl (fun h => ?_) (fun h => ?_)
  · refine gv_n hq 1 (S' := (11, [some (.ref 116), some (.int a1), some (.int a2), none], [.int (-2 : Int32)], D, E)) rfl ?_
    cases h
    exact ev_ret hq rfl rfl ⟨rfl, rfl, rfl⟩
  · refine gv_n hq 2 (S' := (14, [some (.ref 116), some (.int a1), some (.int a2), some (.int (nI 0))], [], D, E)) rfl ?_
    exact gv_w (t_M_stilts_14 X F d hd E F _ _ _ _ _ h) (And.intro rfl (And.intro rfl (And.intro rfl (And.intro rfl trivial))))
def b_X_lengths_46 (F : Nat) (k29 : Int32 → Int32 → Int32 → mx_D → Option (Int32 × mx_D)) (l1 : Int32) (l3 : Int32) (l4 : Int32) (D : mx_D) : Option (Int32 × mx_D) := (rk 8 l1 (rk 8 l1 (k29 l1 l3 (l4 + (nI 1)) (sD D 35 (l1).toNatClampNeg ((D 35 (l1).toNatClampNeg) + (nI 1))))))
set_option maxRecDepth 100000 in
set_option maxHeartbeats 4000000 in
theorem tb_X_lengths_46 (X : ev_X) (F : Nat) (d : Nat) (hd : 5 ≤ d + 1) (E : mx_E) (k29 : Int32 → Int32 → Int32 → mx_D → Option (Int32 × mx_D)) (K29 : ∀ (l1 : Int32) (l3 : Int32) (l4 : Int32) (D : mx_D) (v : Int32 × mx_D), k29 l1 l3 l4 D = some v → ev X (d + 1) 154 (29, [some (.ref 0), some (.int l1), none, some (.int l3), some (.int l4)], [], D, E) (qR (some (.int v.1)) v.2 E)) (l1 : Int32) (l3 : Int32) (l4 : Int32) (D : mx_D) (v : Int32 × mx_D) (h : b_X_lengths_46 F k29 l1 l3 l4 D = some v) : ev X (d + 1) 154 (46, [some (.ref 0), some (.int l1), none, some (.int l3), some (.int l4)], [], D, E) (qR (some (.int v.1)) v.2 E) := by
  have hq : kq_m 154 = some kq_q154 := rfl
  unfold b_X_lengths_46 at h
  refine gv_n hq 5 (S' := (55, [some (.ref 0), some (.int l1), none, some (.int l3), some (.int l4)], [.int l1, .ref 35, .int l1, .ref 35], D, E)) rfl ?_
  refine gv_ia hq rfl rfl rfl h 56 rfl (fun h => ?_)
  refine gv_n hq 2 (S' := (58, [some (.ref 0), some (.int l1), none, some (.int l3), some (.int l4)], [.int ((D 35 (l1).toNatClampNeg) + (nI 1)), .int l1, .ref 35], D, E)) rfl ?_
  refine gv_is hq rfl rfl h 59 rfl (fun h => ?_)
  refine gv_n hq 2 (S' := (29, [some (.ref 0), some (.int l1), none, some (.int l3), some (.int (l4 + (nI 1)))], [], (sD D 35 (l1).toNatClampNeg ((D 35 (l1).toNatClampNeg) + (nI 1))), E)) rfl ?_
  exact gv_w (K29 _ _ _ _ _ h) (And.intro rfl (And.intro rfl (And.intro rfl (And.intro rfl trivial))))
def b_X_lengths_29 (F : Nat) (k29 : Int32 → Int32 → Int32 → mx_D → Option (Int32 × mx_D)) (l1 : Int32) (l3 : Int32) (l4 : Int32) (D : mx_D) : Option (Int32 × mx_D) := (if (nI 99) < l4 then (some (l3, D)) else (Option.bind (g_X_allAreLevel F D) (fun r3 => (if r3 = 0 then (b_X_lengths_46 F k29 l1 l3 l4 D) else (b_X_lengths_46 F k29 l1 (l3 + (nI 1)) l4 D)))))
set_option maxRecDepth 100000 in
set_option maxHeartbeats 4000000 in
theorem tb_X_lengths_29 (X : ev_X) (F : Nat) (d : Nat) (hd : 5 ≤ d + 1) (E : mx_E) (k29 : Int32 → Int32 → Int32 → mx_D → Option (Int32 × mx_D)) (K29 : ∀ (l1 : Int32) (l3 : Int32) (l4 : Int32) (D : mx_D) (v : Int32 × mx_D), k29 l1 l3 l4 D = some v → ev X (d + 1) 154 (29, [some (.ref 0), some (.int l1), none, some (.int l3), some (.int l4)], [], D, E) (qR (some (.int v.1)) v.2 E)) (l1 : Int32) (l3 : Int32) (l4 : Int32) (D : mx_D) (v : Int32 × mx_D) (h : b_X_lengths_29 F k29 l1 l3 l4 D = some v) : ev X (d + 1) 154 (29, [some (.ref 0), some (.int l1), none, some (.int l3), some (.int l4)], [], D, E) (qR (some (.int v.1)) v.2 E) := by
  have hq : kq_m 154 = some kq_q154 := rfl
  unfold b_X_lengths_29 at h
  refine gv_n hq 2 (S' := (33, [some (.ref 0), some (.int l1), none, some (.int l3), some (.int l4)], [.int (nI 99), .int l4], D, E)) rfl ?_
  refine gv_b hq rfl h 65 36 rfl rfl rfl (fun h => ?_) (fun h => ?_)
  · refine gv_n hq 1 (S' := (66, [some (.ref 0), some (.int l1), none, some (.int l3), some (.int l4)], [.int l3], D, E)) rfl ?_
    cases h
    exact ev_ret hq rfl rfl ⟨rfl, rfl, rfl⟩
  · refine gv_n hq 1 (S' := (37, [some (.ref 0), some (.int l1), none, some (.int l3), some (.int l4)], [.ref 0], D, E)) rfl ?_
    obtain ⟨r3, h1, h⟩ := Option.bind_eq_some_iff.mp h
    refine gv_d hq rfl rfl rfl rfl rfl (gv_dd (by omega) (t_X_allAreLevel X F (d - 1) (by omega) D E _ h1)) (S' := (40, [some (.ref 0), some (.int l1), none, some (.int l3), some (.int l4)], [.int r3], D, E)) rfl ?_
    refine gv_b hq rfl h 46 43 rfl rfl rfl (fun h => ?_) (fun h => ?_)
    · exact gv_w (tb_X_lengths_46 X F d hd E k29 K29 _ _ _ _ _ h) (And.intro rfl (And.intro rfl (And.intro rfl (And.intro rfl trivial))))
    · refine gv_n hq 1 (S' := (46, [some (.ref 0), some (.int l1), none, some (.int (l3 + (nI 1))), some (.int l4)], [], D, E)) rfl ?_
      exact gv_w (tb_X_lengths_46 X F d hd E k29 K29 _ _ _ _ _ h) (And.intro rfl (And.intro rfl (And.intro rfl (And.intro rfl trivial))))
def g_X_lengths_29 (F : Nat) : Nat → Int32 → Int32 → Int32 → mx_D → Option (Int32 × mx_D) := it (fun k29 => b_X_lengths_29 F k29) (fun _ _ _ _ => none)
set_option maxRecDepth 100000 in
set_option maxHeartbeats 4000000 in
theorem t_X_lengths_29 (X : ev_X) (F : Nat) (d : Nat) (hd : 5 ≤ d + 1) (E : mx_E)  : ∀ (n : Nat) (l1 : Int32) (l3 : Int32) (l4 : Int32) (D : mx_D) (v : Int32 × mx_D), g_X_lengths_29 F n l1 l3 l4 D = some v → ev X (d + 1) 154 (29, [some (.ref 0), some (.int l1), none, some (.int l3), some (.int l4)], [], D, E) (qR (some (.int v.1)) v.2 E) := by
  intro n
  induction n with
  | zero => intro l1 l3 l4 D v h; cases h
  | succ n ih => intro l1 l3 l4 D v h; exact tb_X_lengths_29 X F d hd E (g_X_lengths_29 F n) ih l1 l3 l4 D v h
def g_X_lengths (F : Nat) (a1 : Int32) (a2 : Int32) (D : mx_D) : Option (Int32 × mx_D) := (Option.bind (g_X_canAskOfSitter D a1 a2) (fun r1 => (if r1 = 0 then (some ((-2 : Int32), D)) else (Option.bind (g_Heights_take F a2 D) (fun r2 => (g_X_lengths_29 F F a1 (nI 0) (nI 0) r2))))))
set_option maxRecDepth 100000 in
set_option maxHeartbeats 4000000 in
theorem t_X_lengths (X : ev_X) (F : Nat) (d : Nat) (hd : 5 ≤ d + 1) (E : mx_E) (a1 : Int32) (a2 : Int32) (D : mx_D) (v : Int32 × mx_D) (h : g_X_lengths F a1 a2 D = some v) : ev X (d + 1) 154 (0, [some (.ref 0), some (.int a1), some (.int a2), none, none], [], D, E) (qR (some (.int v.1)) v.2 E) := by
  have hq : kq_m 154 = some kq_q154 := rfl
  unfold g_X_lengths at h
  refine gv_n hq 3 (S' := (3, [some (.ref 0), some (.int a1), some (.int a2), none, none], [.int a2, .int a1, .ref 0], D, E)) rfl ?_
  obtain ⟨r1, h1, h⟩ := Option.bind_eq_some_iff.mp h
  refine gv_d hq rfl rfl rfl rfl rfl (gv_dd (by omega) (t_X_canAskOfSitter X (d - 1) (by omega) D E _ _ _ h1)) (S' := (6, [some (.ref 0), some (.int a1), some (.int a2), none, none], [.int r1], D, E)) rfl ?_
  refine gv_b hq rfl h 9 12 rfl rfl rfl (fun h => ?_) (fun h => ?_)
  · refine gv_n hq 1 (S' := (11, [some (.ref 0), some (.int a1), some (.int a2), none, none], [.int (-2 : Int32)], D, E)) rfl ?_
    cases h
    exact ev_ret hq rfl rfl ⟨rfl, rfl, rfl⟩
  · refine gv_n hq 5 (S' := (21, [some (.ref 0), some (.int a1), some (.int a2), none, none], [.int a2, .ref 19, .ref 34], D, E)) rfl ?_
    obtain ⟨r2, h1, h⟩ := Option.bind_eq_some_iff.mp h
    refine gv_d hq rfl rfl rfl rfl rfl (gv_dd (by omega) (t_Heights_take X F (d - 1) (by omega) E _ _ _ h1)) (S' := (24, [some (.ref 0), some (.int a1), some (.int a2), none, none], [], r2, E)) rfl ?_
    refine gv_n hq 4 (S' := (29, [some (.ref 0), some (.int a1), some (.int a2), some (.int (nI 0)), some (.int (nI 0))], [], r2, E)) rfl ?_
    exact gv_w (t_X_lengths_29 X F d hd E F _ _ _ _ _ h) (And.intro rfl (And.intro rfl (And.intro rfl (And.intro rfl trivial))))
def b_M_lengths_17 (F : Nat) (k17 : Int32 → Int32 → Int32 → Int32 → mx_D → Option (Int32 × mx_D)) (l1 : Int32) (l2 : Int32) (l3 : Int32) (l4 : Int32) (D : mx_D) : Option (Int32 × mx_D) := (if (nI 100) ≤ l4 then (some (l3, D)) else (Option.bind (g_M_isLevelBy F l1 l2 l4 D) (fun r2 => (if r2.1 = 0 then (k17 l1 l2 (l3 + (nI 0)) (l4 + (nI 1)) r2.2) else (k17 l1 l2 (l3 + (nI 1)) (l4 + (nI 1)) r2.2)))))
set_option maxRecDepth 100000 in
set_option maxHeartbeats 4000000 in
theorem tb_M_lengths_17 (X : ev_X) (F : Nat) (d : Nat) (hd : 6 ≤ d + 1) (E : mx_E) (k17 : Int32 → Int32 → Int32 → Int32 → mx_D → Option (Int32 × mx_D)) (K17 : ∀ (l1 : Int32) (l2 : Int32) (l3 : Int32) (l4 : Int32) (D : mx_D) (v : Int32 × mx_D), k17 l1 l2 l3 l4 D = some v → ev X (d + 1) 295 (17, [some (.ref 116), some (.int l1), some (.int l2), some (.int l3), some (.int l4)], [], D, E) (qR (some (.int v.1)) v.2 E)) (l1 : Int32) (l2 : Int32) (l3 : Int32) (l4 : Int32) (D : mx_D) (v : Int32 × mx_D) (h : b_M_lengths_17 F k17 l1 l2 l3 l4 D = some v) : ev X (d + 1) 295 (17, [some (.ref 116), some (.int l1), some (.int l2), some (.int l3), some (.int l4)], [], D, E) (qR (some (.int v.1)) v.2 E) := by
  have hq : kq_m 295 = some kq_q295 := rfl
  unfold b_M_lengths_17 at h
  refine gv_n hq 2 (S' := (21, [some (.ref 116), some (.int l1), some (.int l2), some (.int l3), some (.int l4)], [.int (nI 100), .int l4], D, E)) rfl ?_
  refine gv_b hq rfl h 49 24 rfl rfl rfl (fun h => ?_) (fun h => ?_)
  · refine gv_n hq 1 (S' := (50, [some (.ref 116), some (.int l1), some (.int l2), some (.int l3), some (.int l4)], [.int l3], D, E)) rfl ?_
    cases h
    exact ev_ret hq rfl rfl ⟨rfl, rfl, rfl⟩
  · refine gv_n hq 5 (S' := (30, [some (.ref 116), some (.int l1), some (.int l2), some (.int l3), some (.int l4)], [.int l4, .int l2, .int l1, .ref 116, .int l3], D, E)) rfl ?_
    obtain ⟨r2, h1, h⟩ := Option.bind_eq_some_iff.mp h
    refine gv_d hq rfl rfl rfl rfl rfl (gv_dd (by omega) (t_M_isLevelBy X F (d - 1) (by omega) E _ _ _ _ _ h1)) (S' := (33, [some (.ref 116), some (.int l1), some (.int l2), some (.int l3), some (.int l4)], [.int r2.1, .int l3], r2.2, E)) rfl ?_
    refine gv_b hq rfl h 40 36 rfl rfl rfl (fun h => ?_) (fun h => ?_)
    · refine gv_n hq 5 (S' := (17, [some (.ref 116), some (.int l1), some (.int l2), some (.int (l3 + (nI 0))), some (.int (l4 + (nI 1)))], [], r2.2, E)) rfl ?_
      exact gv_w (K17 _ _ _ _ _ _ h) (And.intro rfl (And.intro rfl (And.intro rfl (And.intro rfl (And.intro rfl trivial)))))
    · refine gv_n hq 6 (S' := (17, [some (.ref 116), some (.int l1), some (.int l2), some (.int (l3 + (nI 1))), some (.int (l4 + (nI 1)))], [], r2.2, E)) rfl ?_
      exact gv_w (K17 _ _ _ _ _ _ h) (And.intro rfl (And.intro rfl (And.intro rfl (And.intro rfl (And.intro rfl trivial)))))
def g_M_lengths_17 (F : Nat) : Nat → Int32 → Int32 → Int32 → Int32 → mx_D → Option (Int32 × mx_D) := it (fun k17 => b_M_lengths_17 F k17) (fun _ _ _ _ _ => none)
set_option maxRecDepth 100000 in
set_option maxHeartbeats 4000000 in
theorem t_M_lengths_17 (X : ev_X) (F : Nat) (d : Nat) (hd : 6 ≤ d + 1) (E : mx_E)  : ∀ (n : Nat) (l1 : Int32) (l2 : Int32) (l3 : Int32) (l4 : Int32) (D : mx_D) (v : Int32 × mx_D), g_M_lengths_17 F n l1 l2 l3 l4 D = some v → ev X (d + 1) 295 (17, [some (.ref 116), some (.int l1), some (.int l2), some (.int l3), some (.int l4)], [], D, E) (qR (some (.int v.1)) v.2 E) := by
  intro n
  induction n with
  | zero => intro l1 l2 l3 l4 D v h; cases h
  | succ n ih => intro l1 l2 l3 l4 D v h; exact tb_M_lengths_17 X F d hd E (g_M_lengths_17 F n) ih l1 l2 l3 l4 D v h
def g_M_lengths (F : Nat) (a1 : Int32) (a2 : Int32) (D : mx_D) : Option (Int32 × mx_D) := (Option.bind (g_M_isSitter D a1 a2) (fun r1 => (if r1 = 0 then (some ((-2 : Int32), D)) else (g_M_lengths_17 F F a1 a2 (nI 0) (nI 0) D))))
set_option maxRecDepth 100000 in
set_option maxHeartbeats 4000000 in
theorem t_M_lengths (X : ev_X) (F : Nat) (d : Nat) (hd : 6 ≤ d + 1) (E : mx_E) (a1 : Int32) (a2 : Int32) (D : mx_D) (v : Int32 × mx_D) (h : g_M_lengths F a1 a2 D = some v) : ev X (d + 1) 295 (0, [some (.ref 116), some (.int a1), some (.int a2), none, none], [], D, E) (qR (some (.int v.1)) v.2 E) := by
  have hq : kq_m 295 = some kq_q295 := rfl
  unfold g_M_lengths at h
  refine gv_n hq 3 (S' := (3, [some (.ref 116), some (.int a1), some (.int a2), none, none], [.int a2, .int a1, .ref 116], D, E)) rfl ?_
  obtain ⟨r1, h1, h⟩ := Option.bind_eq_some_iff.mp h
  refine gv_d hq rfl rfl rfl rfl rfl (gv_dd (by omega) (t_M_isSitter X (d - 1) (by omega) D E _ _ _ h1)) (S' := (6, [some (.ref 116), some (.int a1), some (.int a2), none, none], [.int r1], D, E)) rfl ?_
  refine gv_b hq rfl h 9 12 rfl rfl rfl (fun h => ?_) (fun h => ?_)
  · refine gv_n hq 1 (S' := (11, [some (.ref 116), some (.int a1), some (.int a2), none, none], [.int (-2 : Int32)], D, E)) rfl ?_
    cases h
    exact ev_ret hq rfl rfl ⟨rfl, rfl, rfl⟩
  · refine gv_n hq 4 (S' := (17, [some (.ref 116), some (.int a1), some (.int a2), some (.int (nI 0)), some (.int (nI 0))], [], D, E)) rfl ?_
    exact gv_w (t_M_lengths_17 X F d hd E F _ _ _ _ _ _ h) (And.intro rfl (And.intro rfl (And.intro rfl (And.intro rfl (And.intro rfl trivial)))))
def g_X_isHump (F : Nat) (D : mx_D) (a1 : Int32) (a2 : Int32) (a3 : Int32) : Option (Int32) := (Option.bind (g_Church_sitterAt F D a1 a2) (fun r1 => (Option.bind (g_Church_sitterAt F D a1 (a2 - (nI 1))) (fun r2 => (Option.bind (g_Church_sitterAt F D a1 (a2 + (nI 1))) (fun r3 => (if r1 = (-1 : Int32) then (some (nI 0)) else (if r2 = (-1 : Int32) then (some (nI 0)) else (if r3 = (-1 : Int32) then (some (nI 0)) else (Option.bind (g_Church_highOf F D r1 a3) (fun r4 => (Option.bind (g_Church_highOf F D r2 a3) (fun r5 => (if (r4 - (D 19 2)) ≤ r5 then (some (nI 0)) else (Option.bind (g_Church_highOf F D r3 a3) (fun r6 => (if (r4 - (D 19 2)) ≤ r6 then (some (nI 0)) else (some (nI 1)))))))))))))))))))
set_option maxRecDepth 100000 in
set_option maxHeartbeats 4000000 in
theorem t_X_isHump (X : ev_X) (F : Nat) (d : Nat) (hd : 4 ≤ d + 1) (D : mx_D) (E : mx_E) (a1 : Int32) (a2 : Int32) (a3 : Int32) (v : Int32) (h : g_X_isHump F D a1 a2 a3 = some v) : ev X (d + 1) 129 (0, [some (.ref 0), some (.int a1), some (.int a2), some (.int a3), none, none, none, none], [], D, E) (qR (some (.int v)) D E) := by
  have hq : kq_m 129 = some kq_q129 := rfl
  unfold g_X_isHump at h
  refine gv_n hq 4 (S' := (6, [some (.ref 0), some (.int a1), some (.int a2), some (.int a3), none, none, none, none], [.int a2, .int a1, .ref 19], D, E)) rfl ?_
  obtain ⟨r1, h1, h⟩ := Option.bind_eq_some_iff.mp h
  refine gv_d hq rfl rfl rfl rfl rfl (gv_dd (by omega) (t_Church_sitterAt X F (d - 1) (by omega) D E _ _ _ h1)) (S' := (9, [some (.ref 0), some (.int a1), some (.int a2), some (.int a3), none, none, none, none], [.int r1], D, E)) rfl ?_
  refine gv_n hq 7 (S' := (19, [some (.ref 0), some (.int a1), some (.int a2), some (.int a3), some (.int r1), none, none, none], [.int (a2 - (nI 1)), .int a1, .ref 19], D, E)) rfl ?_
  obtain ⟨r2, h1, h⟩ := Option.bind_eq_some_iff.mp h
  refine gv_d hq rfl rfl rfl rfl rfl (gv_dd (by omega) (t_Church_sitterAt X F (d - 1) (by omega) D E _ _ _ h1)) (S' := (22, [some (.ref 0), some (.int a1), some (.int a2), some (.int a3), some (.int r1), none, none, none], [.int r2], D, E)) rfl ?_
  refine gv_n hq 7 (S' := (32, [some (.ref 0), some (.int a1), some (.int a2), some (.int a3), some (.int r1), some (.int r2), none, none], [.int (a2 + (nI 1)), .int a1, .ref 19], D, E)) rfl ?_
  obtain ⟨r3, h1, h⟩ := Option.bind_eq_some_iff.mp h
  refine gv_d hq rfl rfl rfl rfl rfl (gv_dd (by omega) (t_Church_sitterAt X F (d - 1) (by omega) D E _ _ _ h1)) (S' := (35, [some (.ref 0), some (.int a1), some (.int a2), some (.int a3), some (.int r1), some (.int r2), none, none], [.int r3], D, E)) rfl ?_
  refine gv_n hq 3 (S' := (40, [some (.ref 0), some (.int a1), some (.int a2), some (.int a3), some (.int r1), some (.int r2), some (.int r3), none], [.int (-1 : Int32), .int r1], D, E)) rfl ?_
  refine gv_b hq rfl h 55 43 rfl rfl rfl (fun h => ?_) (fun h => ?_)
  · refine gv_n hq 1 (S' := (56, [some (.ref 0), some (.int a1), some (.int a2), some (.int a3), some (.int r1), some (.int r2), some (.int r3), none], [.int (nI 0)], D, E)) rfl ?_
    cases h
    exact ev_ret hq rfl rfl ⟨rfl, rfl, rfl⟩
  · refine gv_n hq 2 (S' := (46, [some (.ref 0), some (.int a1), some (.int a2), some (.int a3), some (.int r1), some (.int r2), some (.int r3), none], [.int (-1 : Int32), .int r2], D, E)) rfl ?_
    refine gv_b hq rfl h 55 49 rfl rfl rfl (fun h => ?_) (fun h => ?_)
    · refine gv_n hq 1 (S' := (56, [some (.ref 0), some (.int a1), some (.int a2), some (.int a3), some (.int r1), some (.int r2), some (.int r3), none], [.int (nI 0)], D, E)) rfl ?_
      cases h
      exact ev_ret hq rfl rfl ⟨rfl, rfl, rfl⟩
    · refine gv_n hq 2 (S' := (52, [some (.ref 0), some (.int a1), some (.int a2), some (.int a3), some (.int r1), some (.int r2), some (.int r3), none], [.int (-1 : Int32), .int r3], D, E)) rfl ?_
      refine gv_b hq rfl h 55 57 rfl rfl rfl (fun h => ?_) (fun h => ?_)
      · refine gv_n hq 1 (S' := (56, [some (.ref 0), some (.int a1), some (.int a2), some (.int a3), some (.int r1), some (.int r2), some (.int r3), none], [.int (nI 0)], D, E)) rfl ?_
        cases h
        exact ev_ret hq rfl rfl ⟨rfl, rfl, rfl⟩
      · refine gv_n hq 4 (S' := (64, [some (.ref 0), some (.int a1), some (.int a2), some (.int a3), some (.int r1), some (.int r2), some (.int r3), none], [.int a3, .int r1, .ref 19], D, E)) rfl ?_
        obtain ⟨r4, h1, h⟩ := Option.bind_eq_some_iff.mp h
        refine gv_d hq rfl rfl rfl rfl rfl (gv_dd (by omega) (t_Church_highOf X F (d - 1) (by omega) D E _ _ _ h1)) (S' := (67, [some (.ref 0), some (.int a1), some (.int a2), some (.int a3), some (.int r1), some (.int r2), some (.int r3), none], [.int r4], D, E)) rfl ?_
        refine gv_n hq 10 (S' := (86, [some (.ref 0), some (.int a1), some (.int a2), some (.int a3), some (.int r1), some (.int r2), some (.int r3), some (.int (r4 - (D 19 2)))], [.int a3, .int r2, .ref 19, .int (r4 - (D 19 2))], D, E)) rfl ?_
        obtain ⟨r5, h1, h⟩ := Option.bind_eq_some_iff.mp h
        refine gv_d hq rfl rfl rfl rfl rfl (gv_dd (by omega) (t_Church_highOf X F (d - 1) (by omega) D E _ _ _ h1)) (S' := (89, [some (.ref 0), some (.int a1), some (.int a2), some (.int a3), some (.int r1), some (.int r2), some (.int r3), some (.int (r4 - (D 19 2)))], [.int r5, .int (r4 - (D 19 2))], D, E)) rfl ?_
        refine gv_b hq rfl h 111 92 rfl rfl rfl (fun h => ?_) (fun h => ?_)
        · refine gv_n hq 1 (S' := (112, [some (.ref 0), some (.int a1), some (.int a2), some (.int a3), some (.int r1), some (.int r2), some (.int r3), some (.int (r4 - (D 19 2)))], [.int (nI 0)], D, E)) rfl ?_
          cases h
          exact ev_ret hq rfl rfl ⟨rfl, rfl, rfl⟩
        · refine gv_n hq 5 (S' := (101, [some (.ref 0), some (.int a1), some (.int a2), some (.int a3), some (.int r1), some (.int r2), some (.int r3), some (.int (r4 - (D 19 2)))], [.int a3, .int r3, .ref 19, .int (r4 - (D 19 2))], D, E)) rfl ?_
          obtain ⟨r6, h1, h⟩ := Option.bind_eq_some_iff.mp h
          refine gv_d hq rfl rfl rfl rfl rfl (gv_dd (by omega) (t_Church_highOf X F (d - 1) (by omega) D E _ _ _ h1)) (S' := (104, [some (.ref 0), some (.int a1), some (.int a2), some (.int a3), some (.int r1), some (.int r2), some (.int r3), some (.int (r4 - (D 19 2)))], [.int r6, .int (r4 - (D 19 2))], D, E)) rfl ?_
          refine gv_b hq rfl h 111 107 rfl rfl rfl (fun h => ?_) (fun h => ?_)
          · refine gv_n hq 1 (S' := (112, [some (.ref 0), some (.int a1), some (.int a2), some (.int a3), some (.int r1), some (.int r2), some (.int r3), some (.int (r4 - (D 19 2)))], [.int (nI 0)], D, E)) rfl ?_
            cases h
            exact ev_ret hq rfl rfl ⟨rfl, rfl, rfl⟩
          · refine gv_n hq 2 (S' := (112, [some (.ref 0), some (.int a1), some (.int a2), some (.int a3), some (.int r1), some (.int r2), some (.int r3), some (.int (r4 - (D 19 2)))], [.int (nI 1)], D, E)) rfl ?_
            cases h
            exact ev_ret hq rfl rfl ⟨rfl, rfl, rfl⟩
def b_X_hump_40 (F : Nat) (D : mx_D) (k40 : Int32 → Int32 → Int32 → Int32 → Int32 → Int32 → Option (Int32)) (l1 : Int32) (l2 : Int32) (l3 : Int32) (l4 : Int32) (l5 : Int32) (l6 : Int32) : Option (Int32) := (if ((D 19 1) - (nI 1)) ≤ l6 then (if l3 = 0 then (some l4) else (some l5)) else (Option.bind (g_X_isHump F D l1 l6 l2) (fun r1 => (if r1 = 0 then (k40 l1 l2 l3 l4 l5 (l6 + (nI 1))) else (if l5 = (-1 : Int32) then (k40 l1 l2 l3 (l4 + (nI 1)) l6 (l6 + (nI 1))) else (k40 l1 l2 l3 (l4 + (nI 1)) l5 (l6 + (nI 1))))))))
set_option maxRecDepth 100000 in
set_option maxHeartbeats 4000000 in
theorem tb_X_hump_40 (X : ev_X) (F : Nat) (d : Nat) (hd : 5 ≤ d + 1) (D : mx_D) (E : mx_E) (k40 : Int32 → Int32 → Int32 → Int32 → Int32 → Int32 → Option (Int32)) (K40 : ∀ (l1 : Int32) (l2 : Int32) (l3 : Int32) (l4 : Int32) (l5 : Int32) (l6 : Int32) (v : Int32), k40 l1 l2 l3 l4 l5 l6 = some v → ev X (d + 1) 128 (40, [some (.ref 0), some (.int l1), some (.int l2), some (.int l3), some (.int l4), some (.int l5), some (.int l6)], [], D, E) (qR (some (.int v)) D E)) (l1 : Int32) (l2 : Int32) (l3 : Int32) (l4 : Int32) (l5 : Int32) (l6 : Int32) (v : Int32) (h : b_X_hump_40 F D k40 l1 l2 l3 l4 l5 l6 = some v) : ev X (d + 1) 128 (40, [some (.ref 0), some (.int l1), some (.int l2), some (.int l3), some (.int l4), some (.int l5), some (.int l6)], [], D, E) (qR (some (.int v)) D E) := by
  have hq : kq_m 128 = some kq_q128 := rfl
  unfold b_X_hump_40 at h
  refine gv_n hq 6 (S' := (51, [some (.ref 0), some (.int l1), some (.int l2), some (.int l3), some (.int l4), some (.int l5), some (.int l6)], [.int ((D 19 1) - (nI 1)), .int l6], D, E)) rfl ?_
  refine gv_b hq rfl h 89 54 rfl rfl rfl (fun h => ?_) (fun h => ?_)
  · refine gv_n hq 1 (S' := (90, [some (.ref 0), some (.int l1), some (.int l2), some (.int l3), some (.int l4), some (.int l5), some (.int l6)], [.int l3], D, E)) rfl ?_
    refine gv_b hq rfl h 93 98 rfl rfl rfl (fun h => ?_) (fun h => ?_)
    · refine gv_n hq 2 (S' := (100, [some (.ref 0), some (.int l1), some (.int l2), some (.int l3), some (.int l4), some (.int l5), some (.int l6)], [.int l4], D, E)) rfl ?_
      cases h
      exact ev_ret hq rfl rfl ⟨rfl, rfl, rfl⟩
    · refine gv_n hq 1 (S' := (100, [some (.ref 0), some (.int l1), some (.int l2), some (.int l3), some (.int l4), some (.int l5), some (.int l6)], [.int l5], D, E)) rfl ?_
      cases h
      exact ev_ret hq rfl rfl ⟨rfl, rfl, rfl⟩
  · refine gv_n hq 4 (S' := (59, [some (.ref 0), some (.int l1), some (.int l2), some (.int l3), some (.int l4), some (.int l5), some (.int l6)], [.int l2, .int l6, .int l1, .ref 0], D, E)) rfl ?_
    obtain ⟨r1, h1, h⟩ := Option.bind_eq_some_iff.mp h
    refine gv_d hq rfl rfl rfl rfl rfl (gv_dd (by omega) (t_X_isHump X F (d - 1) (by omega) D E _ _ _ _ h1)) (S' := (62, [some (.ref 0), some (.int l1), some (.int l2), some (.int l3), some (.int l4), some (.int l5), some (.int l6)], [.int r1], D, E)) rfl ?_
    refine gv_b hq rfl h 83 65 rfl rfl rfl (fun h => ?_) (fun h => ?_)
    · refine gv_n hq 2 (S' := (40, [some (.ref 0), some (.int l1), some (.int l2), some (.int l3), some (.int l4), some (.int l5), some (.int (l6 + (nI 1)))], [], D, E)) rfl ?_
      exact gv_w (K40 _ _ _ _ _ _ _ h) (And.intro rfl (And.intro rfl (And.intro rfl (And.intro rfl (And.intro rfl (And.intro rfl (And.intro rfl trivial)))))))
    · refine gv_n hq 3 (S' := (71, [some (.ref 0), some (.int l1), some (.int l2), some (.int l3), some (.int (l4 + (nI 1))), some (.int l5), some (.int l6)], [.int (-1 : Int32), .int l5], D, E)) rfl ?_
      refine gv_b hq rfl h 74 79 rfl rfl rfl (fun h => ?_) (fun h => ?_)
      · refine gv_n hq 5 (S' := (40, [some (.ref 0), some (.int l1), some (.int l2), some (.int l3), some (.int (l4 + (nI 1))), some (.int l6), some (.int (l6 + (nI 1)))], [], D, E)) rfl ?_
        exact gv_w (K40 _ _ _ _ _ _ _ h) (And.intro rfl (And.intro rfl (And.intro rfl (And.intro rfl (And.intro rfl (And.intro rfl (And.intro rfl trivial)))))))
      · refine gv_n hq 4 (S' := (40, [some (.ref 0), some (.int l1), some (.int l2), some (.int l3), some (.int (l4 + (nI 1))), some (.int l5), some (.int (l6 + (nI 1)))], [], D, E)) rfl ?_
        exact gv_w (K40 _ _ _ _ _ _ _ h) (And.intro rfl (And.intro rfl (And.intro rfl (And.intro rfl (And.intro rfl (And.intro rfl (And.intro rfl trivial)))))))
def g_X_hump_40 (F : Nat) (D : mx_D) : Nat → Int32 → Int32 → Int32 → Int32 → Int32 → Int32 → Option (Int32) := it (fun k40 => b_X_hump_40 F D k40) (fun _ _ _ _ _ _ => none)
set_option maxRecDepth 100000 in
set_option maxHeartbeats 4000000 in
theorem t_X_hump_40 (X : ev_X) (F : Nat) (d : Nat) (hd : 5 ≤ d + 1) (D : mx_D) (E : mx_E)  : ∀ (n : Nat) (l1 : Int32) (l2 : Int32) (l3 : Int32) (l4 : Int32) (l5 : Int32) (l6 : Int32) (v : Int32), g_X_hump_40 F D n l1 l2 l3 l4 l5 l6 = some v → ev X (d + 1) 128 (40, [some (.ref 0), some (.int l1), some (.int l2), some (.int l3), some (.int l4), some (.int l5), some (.int l6)], [], D, E) (qR (some (.int v)) D E) := by
  intro n
  induction n with
  | zero => intro l1 l2 l3 l4 l5 l6 v h; cases h
  | succ n ih => intro l1 l2 l3 l4 l5 l6 v h; exact tb_X_hump_40 X F d hd D E (g_X_hump_40 F D n) ih l1 l2 l3 l4 l5 l6 v h
def g_X_hump (F : Nat) (D : mx_D) (a1 : Int32) (a2 : Int32) (a3 : Int32) : Option (Int32) := (if (g_X_canAsk D a2) = 0 then (some (-2 : Int32)) else (if (g_Church_hasPew D a1) = 0 then (some (-2 : Int32)) else (if a3 < 0 then (some (-2 : Int32)) else (if a3 ≤ (nI 1) then (g_X_hump_40 F D F a1 a2 a3 (nI 0) (-1 : Int32) (nI 1)) else (some (-2 : Int32))))))
set_option maxRecDepth 100000 in
set_option maxHeartbeats 4000000 in
theorem t_X_hump (X : ev_X) (F : Nat) (d : Nat) (hd : 5 ≤ d + 1) (D : mx_D) (E : mx_E) (a1 : Int32) (a2 : Int32) (a3 : Int32) (v : Int32) (h : g_X_hump F D a1 a2 a3 = some v) : ev X (d + 1) 128 (0, [some (.ref 0), some (.int a1), some (.int a2), some (.int a3), none, none, none], [], D, E) (qR (some (.int v)) D E) := by
  have hq : kq_m 128 = some kq_q128 := rfl
  unfold g_X_hump at h
  refine gv_n hq 2 (S' := (2, [some (.ref 0), some (.int a1), some (.int a2), some (.int a3), none, none, none], [.int a2, .ref 0], D, E)) rfl ?_
  refine gv_d hq rfl rfl rfl rfl rfl (gv_dd (by omega) (t_X_canAsk X (d - 1) (by omega) D E _ _ rfl)) (S' := (5, [some (.ref 0), some (.int a1), some (.int a2), some (.int a3), none, none, none], [.int (g_X_canAsk D a2)], D, E)) rfl ?_
  refine gv_b hq rfl h 28 8 rfl rfl rfl (fun h => ?_) (fun h => ?_)
  · refine gv_n hq 1 (S' := (30, [some (.ref 0), some (.int a1), some (.int a2), some (.int a3), none, none, none], [.int (-2 : Int32)], D, E)) rfl ?_
    cases h
    exact ev_ret hq rfl rfl ⟨rfl, rfl, rfl⟩
  · refine gv_n hq 3 (S' := (13, [some (.ref 0), some (.int a1), some (.int a2), some (.int a3), none, none, none], [.int a1, .ref 19], D, E)) rfl ?_
    refine gv_d hq rfl rfl rfl rfl rfl ((t_Church_hasPew X d D E _ _ rfl)) (S' := (16, [some (.ref 0), some (.int a1), some (.int a2), some (.int a3), none, none, none], [.int (g_Church_hasPew D a1)], D, E)) rfl ?_
    refine gv_b hq rfl h 28 19 rfl rfl rfl (fun h => ?_) (fun h => ?_)
    · refine gv_n hq 1 (S' := (30, [some (.ref 0), some (.int a1), some (.int a2), some (.int a3), none, none, none], [.int (-2 : Int32)], D, E)) rfl ?_
      cases h
      exact ev_ret hq rfl rfl ⟨rfl, rfl, rfl⟩
    · refine gv_n hq 1 (S' := (20, [some (.ref 0), some (.int a1), some (.int a2), some (.int a3), none, none, none], [.int a3], D, E)) rfl ?_
      refine gv_b hq rfl h 28 23 rfl rfl rfl (fun h => ?_) (fun h => ?_)
      · refine gv_n hq 1 (S' := (30, [some (.ref 0), some (.int a1), some (.int a2), some (.int a3), none, none, none], [.int (-2 : Int32)], D, E)) rfl ?_
        cases h
        exact ev_ret hq rfl rfl ⟨rfl, rfl, rfl⟩
      · refine gv_n hq 2 (S' := (25, [some (.ref 0), some (.int a1), some (.int a2), some (.int a3), none, none, none], [.int (nI 1), .int a3], D, E)) rfl ?_
        refine gv_b hq rfl h 31 28 rfl rfl rfl (fun h => ?_) (fun h => ?_)
        · refine gv_n hq 6 (S' := (40, [some (.ref 0), some (.int a1), some (.int a2), some (.int a3), some (.int (nI 0)), some (.int (-1 : Int32)), some (.int (nI 1))], [], D, E)) rfl ?_
          exact gv_w (t_X_hump_40 X F d hd D E F _ _ _ _ _ _ _ h) (And.intro rfl (And.intro rfl (And.intro rfl (And.intro rfl (And.intro rfl (And.intro rfl (And.intro rfl trivial)))))))
        · refine gv_n hq 1 (S' := (30, [some (.ref 0), some (.int a1), some (.int a2), some (.int a3), none, none, none], [.int (-2 : Int32)], D, E)) rfl ?_
          cases h
          exact ev_ret hq rfl rfl ⟨rfl, rfl, rfl⟩
