/-! ===== pictures of the methods and the rows that tie them to their frames, printed by a program of mine ===== -/
def b_BookSearch_findFewest_7 (F : Nat) (k7 : Int32 → mx_D → Option (mx_D)) (l2 : Int32) (D : mx_D) : Option (mx_D) := (if (D 19 12) < l2 then (some D) else (if (D 45 7) = (-1 : Int32) then (Option.bind (g_BookSearch_give F 20 (nI 0) (((nI 1) <<< ((D 19 12) &&& 31)) - (nI 1)) (nI 0) l2 D) (fun r2 => (k7 (l2 + (nI 1)) r2))) else (some D)))
set_option maxRecDepth 100000 in
set_option maxHeartbeats 4000000 in
theorem tb_BookSearch_findFewest_7 (X : ev_X) (F : Nat) (d : Nat) (hd : 103 ≤ d + 1) (E : mx_E) (k7 : Int32 → mx_D → Option (mx_D)) (K7 : ∀ (l2 : Int32) (D : mx_D) (v : mx_D), k7 l2 D = some v → ev X (d + 1) 1 (7, [some (.ref 45), none, some (.int l2)], [], D, E) (qR none v E)) (l2 : Int32) (D : mx_D) (v : mx_D) (h : b_BookSearch_findFewest_7 F k7 l2 D = some v) : ev X (d + 1) 1 (7, [some (.ref 45), none, some (.int l2)], [], D, E) (qR none v E) := by
  have hq : kq_m 1 = some kq_q1 := rfl
  unfold b_BookSearch_findFewest_7 at h
  refine gv_n hq 4 (S' := (15, [some (.ref 45), none, some (.int l2)], [.int (D 19 12), .int l2], D, E)) rfl ?_
  refine gv_b hq rfl h 50 18 rfl rfl rfl (fun h => ?_) (fun h => ?_)
  · cases h
    exact ev_ret hq rfl rfl ⟨rfl, rfl, rfl⟩
  · refine gv_n hq 3 (S' := (23, [some (.ref 45), none, some (.int l2)], [.int (-1 : Int32), .int (D 45 7)], D, E)) rfl ?_
    refine gv_b hq rfl h 26 50 rfl rfl rfl (fun h => ?_) (fun h => ?_)
    · refine gv_n hq 11 (S' := (41, [some (.ref 45), none, some (.int l2)], [.int l2, .int (nI 0), .int (((nI 1) <<< ((D 19 12) &&& 31)) - (nI 1)), .int (nI 0), .ref 45], D, E)) rfl ?_
      obtain ⟨r2, h1, h⟩ := Option.bind_eq_some_iff.mp h
      refine gv_d hq rfl rfl rfl rfl rfl (gv_dd (by omega) (t_BookSearch_give X F E 20 (d - 1) (by omega) _ _ _ _ _ _ h1)) (S' := (44, [some (.ref 45), none, some (.int l2)], [], r2, E)) rfl ?_
      refine gv_n hq 2 (S' := (7, [some (.ref 45), none, some (.int (l2 + (nI 1)))], [], r2, E)) rfl ?_
      exact gv_w (K7 _ _ _ h) (And.intro rfl (And.intro rfl trivial))
    · cases h
      exact ev_ret hq rfl rfl ⟨rfl, rfl, rfl⟩
def g_BookSearch_findFewest_7 (F : Nat) : Nat → Int32 → mx_D → Option (mx_D) := it (fun k7 => b_BookSearch_findFewest_7 F k7) (fun _ _ => none)
set_option maxRecDepth 100000 in
set_option maxHeartbeats 4000000 in
theorem t_BookSearch_findFewest_7 (X : ev_X) (F : Nat) (d : Nat) (hd : 103 ≤ d + 1) (E : mx_E)  : ∀ (n : Nat) (l2 : Int32) (D : mx_D) (v : mx_D), g_BookSearch_findFewest_7 F n l2 D = some v → ev X (d + 1) 1 (7, [some (.ref 45), none, some (.int l2)], [], D, E) (qR none v E) := by
  intro n
  induction n with
  | zero => intro l2 D v h; cases h
  | succ n ih => intro l2 D v h; exact tb_BookSearch_findFewest_7 X F d hd E (g_BookSearch_findFewest_7 F n) ih l2 D v h
def g_BookSearch_findFewest (F : Nat) (a1 : Int32) (D : mx_D) : Option (mx_D) := (Option.bind (g_BookSearch_begin F a1 D) (fun r1 => (g_BookSearch_findFewest_7 F F (nI 0) r1)))
set_option maxRecDepth 100000 in
set_option maxHeartbeats 4000000 in
theorem t_BookSearch_findFewest (X : ev_X) (F : Nat) (d : Nat) (hd : 103 ≤ d + 1) (E : mx_E) (a1 : Int32) (D : mx_D) (v : mx_D) (h : g_BookSearch_findFewest F a1 D = some v) : ev X (d + 1) 1 (0, [some (.ref 45), some (.int a1), none], [], D, E) (qR none v E) := by
  have hq : kq_m 1 = some kq_q1 := rfl
  unfold g_BookSearch_findFewest at h
  refine gv_n hq 2 (S' := (2, [some (.ref 45), some (.int a1), none], [.int a1, .ref 45], D, E)) rfl ?_
  obtain ⟨r1, h1, h⟩ := Option.bind_eq_some_iff.mp h
  refine gv_d hq rfl rfl rfl rfl rfl (gv_dd (by omega) (t_BookSearch_begin X F (d - 1) (by omega) E _ _ _ h1)) (S' := (5, [some (.ref 45), some (.int a1), none], [], r1, E)) rfl ?_
  refine gv_n hq 2 (S' := (7, [some (.ref 45), some (.int a1), some (.int (nI 0))], [], r1, E)) rfl ?_
  exact gv_w (t_BookSearch_findFewest_7 X F d hd E F _ _ _ h) (And.intro rfl (And.intro rfl trivial))
def g_BookSearch_fewest (D : mx_D) : Int32 := (if (D 45 7) = (-1 : Int32) then (-1 : Int32) else ((D 45 7) / (nI 59049)))
set_option maxRecDepth 100000 in
set_option maxHeartbeats 4000000 in
theorem t_BookSearch_fewest (X : ev_X) (d : Nat) (D : mx_D) (E : mx_E) (v : Int32) (h : g_BookSearch_fewest D = v) : ev X d 4 (0, [some (.ref 45)], [], D, E) (qR (some (.int v)) D E) := by
  have hq : kq_m 4 = some kq_q4 := rfl
  unfold g_BookSearch_fewest at h
  refine gv_n hq 3 (S' := (5, [some (.ref 45)], [.int (-1 : Int32), .int (D 45 7)], D, E)) rfl ?_
  refine gv_b hq rfl h 8 12 rfl rfl rfl (fun h => ?_) (fun h => ?_)
  · refine gv_n hq 2 (S' := (19, [some (.ref 45)], [.int (-1 : Int32)], D, E)) rfl ?_
    subst h
    exact ev_ret hq rfl rfl ⟨rfl, rfl, rfl⟩
  · refine gv_n hq 4 (S' := (19, [some (.ref 45)], [.int ((D 45 7) / (nI 59049))], D, E)) rfl ?_
    subst h
    exact ev_ret hq rfl rfl ⟨rfl, rfl, rfl⟩
def g_X_books (F : Nat) (a1 : Int32) (D : mx_D) : Option (Int32 × mx_D) := (if (g_X_canAsk D a1) = 0 then (some ((-2 : Int32), D)) else (Option.bind (g_BookSearch_findFewest F a1 D) (fun r1 => (some ((g_BookSearch_fewest r1), r1)))))
set_option maxRecDepth 100000 in
set_option maxHeartbeats 4000000 in
theorem t_X_books (X : ev_X) (F : Nat) (d : Nat) (hd : 104 ≤ d + 1) (E : mx_E) (a1 : Int32) (D : mx_D) (v : Int32 × mx_D) (h : g_X_books F a1 D = some v) : ev X (d + 1) 141 (0, [some (.ref 0), some (.int a1)], [], D, E) (qR (some (.int v.1)) v.2 E) := by
  have hq : kq_m 141 = some kq_q141 := rfl
  unfold g_X_books at h
  refine gv_n hq 2 (S' := (2, [some (.ref 0), some (.int a1)], [.int a1, .ref 0], D, E)) rfl ?_
  refine gv_d hq rfl rfl rfl rfl rfl (gv_dd (by omega) (t_X_canAsk X (d - 1) (by omega) D E _ _ rfl)) (S' := (5, [some (.ref 0), some (.int a1)], [.int (g_X_canAsk D a1)], D, E)) rfl ?_
  refine gv_b hq rfl h 8 11 rfl rfl rfl (fun h => ?_) (fun h => ?_)
  · refine gv_n hq 1 (S' := (10, [some (.ref 0), some (.int a1)], [.int (-2 : Int32)], D, E)) rfl ?_
    cases h
    exact ev_ret hq rfl rfl ⟨rfl, rfl, rfl⟩
  · refine gv_n hq 3 (S' := (16, [some (.ref 0), some (.int a1)], [.int a1, .ref 45], D, E)) rfl ?_
    obtain ⟨r1, h1, h⟩ := Option.bind_eq_some_iff.mp h
    refine gv_d hq rfl rfl rfl rfl rfl (gv_dd (by omega) (t_BookSearch_findFewest X F (d - 1) (by omega) E _ _ _ h1)) (S' := (19, [some (.ref 0), some (.int a1)], [], r1, E)) rfl ?_
    refine gv_n hq 2 (S' := (23, [some (.ref 0), some (.int a1)], [.ref 45], r1, E)) rfl ?_
    refine gv_d hq rfl rfl rfl rfl rfl ((t_BookSearch_fewest X d r1 E _ rfl)) (S' := (26, [some (.ref 0), some (.int a1)], [.int (g_BookSearch_fewest r1)], r1, E)) rfl ?_
    cases h
    exact ev_ret hq rfl rfl ⟨rfl, rfl, rfl⟩
def g_M_setStands (a1 : Int32) (a2 : Int32) (D : mx_D) : Option (mx_D) := (rk 106 (((nI 96) + ((nI 2) * a1)) + (nI 1)) (some (sD D 117 ((((nI 96) + ((nI 2) * a1)) + (nI 1))).toNatClampNeg a2)))
set_option maxRecDepth 100000 in
set_option maxHeartbeats 4000000 in
theorem t_M_setStands (X : ev_X) (d : Nat) (E : mx_E) (a1 : Int32) (a2 : Int32) (D : mx_D) (v : mx_D) (h : g_M_setStands a1 a2 D = some v) : ev X d 271 (0, [some (.ref 116), some (.int a1), some (.int a2)], [], D, E) (qR none v E) := by
  have hq : kq_m 271 = some kq_q271 := rfl
  unfold g_M_setStands at h
  refine gv_n hq 10 (S' := (13, [some (.ref 116), some (.int a1), some (.int a2)], [.int a2, .int (((nI 96) + ((nI 2) * a1)) + (nI 1)), .ref 117], D, E)) rfl ?_
  refine gv_is hq rfl rfl h 14 rfl (fun h => ?_)
  cases h
  exact ev_ret hq rfl rfl ⟨rfl, rfl, rfl⟩
def b_M_nextGiving_46 (F : Nat) (k10 : Int32 → mx_D → Option (Int32 × mx_D)) (l1 : Int32) (l2 : Int32) (D : mx_D) : Option (Int32 × mx_D) := (if (D 117 4) ≤ l2 then (Option.bind (g_M_setStands l1 (-1 : Int32) D) (fun r2 => (k10 (l1 + (-1 : Int32)) r2))) else (Option.bind (g_M_setStands l1 l2 D) (fun r3 => (some ((nI 1), r3)))))
set_option maxRecDepth 100000 in
set_option maxHeartbeats 4000000 in
theorem tb_M_nextGiving_46 (X : ev_X) (F : Nat) (d : Nat) (hd : 2 ≤ d + 1) (E : mx_E) (k10 : Int32 → mx_D → Option (Int32 × mx_D)) (K10 : ∀ (l1 : Int32) (D : mx_D) (v : Int32 × mx_D), k10 l1 D = some v → ev X (d + 1) 272 (10, [some (.ref 116), some (.int l1), none], [], D, E) (qR (some (.int v.1)) v.2 E)) (l1 : Int32) (l2 : Int32) (D : mx_D) (v : Int32 × mx_D) (h : b_M_nextGiving_46 F k10 l1 l2 D = some v) : ev X (d + 1) 272 (46, [some (.ref 116), some (.int l1), some (.int l2)], [], D, E) (qR (some (.int v.1)) v.2 E) := by
  have hq : kq_m 272 = some kq_q272 := rfl
  unfold b_M_nextGiving_46 at h
  refine gv_n hq 5 (S' := (53, [some (.ref 116), some (.int l1), some (.int l2)], [.int (D 117 4), .int l2], D, E)) rfl ?_
  refine gv_b hq rfl h 64 56 rfl rfl rfl (fun h => ?_) (fun h => ?_)
  · refine gv_n hq 3 (S' := (67, [some (.ref 116), some (.int l1), some (.int l2)], [.int (-1 : Int32), .int l1, .ref 116], D, E)) rfl ?_
    obtain ⟨r2, h1, h⟩ := Option.bind_eq_some_iff.mp h
    refine gv_d hq rfl rfl rfl rfl rfl ((t_M_setStands X d E _ _ _ _ h1)) (S' := (70, [some (.ref 116), some (.int l1), some (.int l2)], [], r2, E)) rfl ?_
    refine gv_n hq 2 (S' := (10, [some (.ref 116), some (.int (l1 + (-1 : Int32))), some (.int l2)], [], r2, E)) rfl ?_
    exact gv_w (K10 _ _ _ h) (And.intro rfl (And.intro rfl trivial))
  · refine gv_n hq 3 (S' := (59, [some (.ref 116), some (.int l1), some (.int l2)], [.int l2, .int l1, .ref 116], D, E)) rfl ?_
    obtain ⟨r3, h1, h⟩ := Option.bind_eq_some_iff.mp h
    refine gv_d hq rfl rfl rfl rfl rfl ((t_M_setStands X d E _ _ _ _ h1)) (S' := (62, [some (.ref 116), some (.int l1), some (.int l2)], [], r3, E)) rfl ?_
    refine gv_n hq 1 (S' := (63, [some (.ref 116), some (.int l1), some (.int l2)], [.int (nI 1)], r3, E)) rfl ?_
    cases h
    exact ev_ret hq rfl rfl ⟨rfl, rfl, rfl⟩
def b_M_nextGiving_22 (F : Nat) (k10 : Int32 → mx_D → Option (Int32 × mx_D)) (k22 : Int32 → Int32 → mx_D → Option (Int32 × mx_D)) (l1 : Int32) (l2 : Int32) (D : mx_D) : Option (Int32 × mx_D) := (if (D 117 4) ≤ l2 then (b_M_nextGiving_46 F k10 l1 l2 D) else (Option.bind (g_M_sits D l2) (fun r4 => (if r4 = 0 then (k22 l1 (l2 + (nI 1)) D) else (b_M_nextGiving_46 F k10 l1 l2 D)))))
set_option maxRecDepth 100000 in
set_option maxHeartbeats 4000000 in
theorem tb_M_nextGiving_22 (X : ev_X) (F : Nat) (d : Nat) (hd : 2 ≤ d + 1) (E : mx_E) (k10 : Int32 → mx_D → Option (Int32 × mx_D)) (k22 : Int32 → Int32 → mx_D → Option (Int32 × mx_D)) (K10 : ∀ (l1 : Int32) (D : mx_D) (v : Int32 × mx_D), k10 l1 D = some v → ev X (d + 1) 272 (10, [some (.ref 116), some (.int l1), none], [], D, E) (qR (some (.int v.1)) v.2 E)) (K22 : ∀ (l1 : Int32) (l2 : Int32) (D : mx_D) (v : Int32 × mx_D), k22 l1 l2 D = some v → ev X (d + 1) 272 (22, [some (.ref 116), some (.int l1), some (.int l2)], [], D, E) (qR (some (.int v.1)) v.2 E)) (l1 : Int32) (l2 : Int32) (D : mx_D) (v : Int32 × mx_D) (h : b_M_nextGiving_22 F k10 k22 l1 l2 D = some v) : ev X (d + 1) 272 (22, [some (.ref 116), some (.int l1), some (.int l2)], [], D, E) (qR (some (.int v.1)) v.2 E) := by
  have hq : kq_m 272 = some kq_q272 := rfl
  unfold b_M_nextGiving_22 at h
  refine gv_n hq 5 (S' := (29, [some (.ref 116), some (.int l1), some (.int l2)], [.int (D 117 4), .int l2], D, E)) rfl ?_
  refine gv_b hq rfl h 46 32 rfl rfl rfl (fun h => ?_) (fun h => ?_)
  · exact gv_w (tb_M_nextGiving_46 X F d hd E k10 K10 _ _ _ _ h) (And.intro rfl (And.intro rfl (And.intro rfl trivial)))
  · refine gv_n hq 2 (S' := (34, [some (.ref 116), some (.int l1), some (.int l2)], [.int l2, .ref 116], D, E)) rfl ?_
    obtain ⟨r4, h1, h⟩ := Option.bind_eq_some_iff.mp h
    refine gv_d hq rfl rfl rfl rfl rfl (gv_dd (by omega) (t_M_sits X (d - 1) (by omega) D E _ _ h1)) (S' := (37, [some (.ref 116), some (.int l1), some (.int l2)], [.int r4], D, E)) rfl ?_
    refine gv_b hq rfl h 40 46 rfl rfl rfl (fun h => ?_) (fun h => ?_)
    · refine gv_n hq 2 (S' := (22, [some (.ref 116), some (.int l1), some (.int (l2 + (nI 1)))], [], D, E)) rfl ?_
      exact gv_w (K22 _ _ _ _ h) (And.intro rfl (And.intro rfl (And.intro rfl trivial)))
    · exact gv_w (tb_M_nextGiving_46 X F d hd E k10 K10 _ _ _ _ h) (And.intro rfl (And.intro rfl (And.intro rfl trivial)))
def g_M_nextGiving_22 (F : Nat) (k10 : Int32 → mx_D → Option (Int32 × mx_D)) : Nat → Int32 → Int32 → mx_D → Option (Int32 × mx_D) := it (fun k22 => b_M_nextGiving_22 F k10 k22) (fun _ _ _ => none)
set_option maxRecDepth 100000 in
set_option maxHeartbeats 4000000 in
theorem t_M_nextGiving_22 (X : ev_X) (F : Nat) (d : Nat) (hd : 2 ≤ d + 1) (E : mx_E) (k10 : Int32 → mx_D → Option (Int32 × mx_D)) (K10 : ∀ (l1 : Int32) (D : mx_D) (v : Int32 × mx_D), k10 l1 D = some v → ev X (d + 1) 272 (10, [some (.ref 116), some (.int l1), none], [], D, E) (qR (some (.int v.1)) v.2 E)) : ∀ (n : Nat) (l1 : Int32) (l2 : Int32) (D : mx_D) (v : Int32 × mx_D), g_M_nextGiving_22 F k10 n l1 l2 D = some v → ev X (d + 1) 272 (22, [some (.ref 116), some (.int l1), some (.int l2)], [], D, E) (qR (some (.int v.1)) v.2 E) := by
  intro n
  induction n with
  | zero => intro l1 l2 D v h; cases h
  | succ n ih => intro l1 l2 D v h; exact tb_M_nextGiving_22 X F d hd E k10 (g_M_nextGiving_22 F k10 n) K10 ih l1 l2 D v h
def b_M_nextGiving_10 (F : Nat) (k10 : Int32 → mx_D → Option (Int32 × mx_D)) (l1 : Int32) (D : mx_D) : Option (Int32 × mx_D) := (if l1 < 0 then (some ((nI 0), D)) else (Option.bind (g_M_standsOn D l1) (fun r1 => (g_M_nextGiving_22 F k10 F l1 (r1 + (nI 1)) D))))
set_option maxRecDepth 100000 in
set_option maxHeartbeats 4000000 in
theorem tb_M_nextGiving_10 (X : ev_X) (F : Nat) (d : Nat) (hd : 2 ≤ d + 1) (E : mx_E) (k10 : Int32 → mx_D → Option (Int32 × mx_D)) (K10 : ∀ (l1 : Int32) (D : mx_D) (v : Int32 × mx_D), k10 l1 D = some v → ev X (d + 1) 272 (10, [some (.ref 116), some (.int l1), none], [], D, E) (qR (some (.int v.1)) v.2 E)) (l1 : Int32) (D : mx_D) (v : Int32 × mx_D) (h : b_M_nextGiving_10 F k10 l1 D = some v) : ev X (d + 1) 272 (10, [some (.ref 116), some (.int l1), none], [], D, E) (qR (some (.int v.1)) v.2 E) := by
  have hq : kq_m 272 = some kq_q272 := rfl
  unfold b_M_nextGiving_10 at h
  refine gv_n hq 1 (S' := (11, [some (.ref 116), some (.int l1), none], [.int l1], D, E)) rfl ?_
  refine gv_b hq rfl h 76 14 rfl rfl rfl (fun h => ?_) (fun h => ?_)
  · refine gv_n hq 1 (S' := (77, [some (.ref 116), some (.int l1), none], [.int (nI 0)], D, E)) rfl ?_
    cases h
    exact ev_ret hq rfl rfl ⟨rfl, rfl, rfl⟩
  · refine gv_n hq 2 (S' := (16, [some (.ref 116), some (.int l1), none], [.int l1, .ref 116], D, E)) rfl ?_
    obtain ⟨r1, h1, h⟩ := Option.bind_eq_some_iff.mp h
    refine gv_d hq rfl rfl rfl rfl rfl ((t_M_standsOn X d D E _ _ h1)) (S' := (19, [some (.ref 116), some (.int l1), none], [.int r1], D, E)) rfl ?_
    refine gv_n hq 3 (S' := (22, [some (.ref 116), some (.int l1), some (.int (r1 + (nI 1)))], [], D, E)) rfl ?_
    exact gv_w (t_M_nextGiving_22 X F d hd E k10 K10 F _ _ _ _ h) (And.intro rfl (And.intro rfl (And.intro rfl trivial)))
def g_M_nextGiving_10 (F : Nat) : Nat → Int32 → mx_D → Option (Int32 × mx_D) := it (fun k10 => b_M_nextGiving_10 F k10) (fun _ _ => none)
set_option maxRecDepth 100000 in
set_option maxHeartbeats 4000000 in
theorem t_M_nextGiving_10 (X : ev_X) (F : Nat) (d : Nat) (hd : 2 ≤ d + 1) (E : mx_E)  : ∀ (n : Nat) (l1 : Int32) (D : mx_D) (v : Int32 × mx_D), g_M_nextGiving_10 F n l1 D = some v → ev X (d + 1) 272 (10, [some (.ref 116), some (.int l1), none], [], D, E) (qR (some (.int v.1)) v.2 E) := by
  intro n
  induction n with
  | zero => intro l1 D v h; cases h
  | succ n ih => intro l1 D v h; exact tb_M_nextGiving_10 X F d hd E (g_M_nextGiving_10 F n) ih l1 D v h
def g_M_nextGiving (F : Nat) (D : mx_D) : Option (Int32 × mx_D) := (g_M_nextGiving_10 F F ((D 117 6) - (nI 1)) D)
set_option maxRecDepth 100000 in
set_option maxHeartbeats 4000000 in
theorem t_M_nextGiving (X : ev_X) (F : Nat) (d : Nat) (hd : 2 ≤ d + 1) (E : mx_E) (D : mx_D) (v : Int32 × mx_D) (h : g_M_nextGiving F D = some v) : ev X (d + 1) 272 (0, [some (.ref 116), none, none], [], D, E) (qR (some (.int v.1)) v.2 E) := by
  have hq : kq_m 272 = some kq_q272 := rfl
  unfold g_M_nextGiving at h
  refine gv_n hq 7 (S' := (10, [some (.ref 116), some (.int ((D 117 6) - (nI 1))), none], [], D, E)) rfl ?_
  exact gv_w (t_M_nextGiving_10 X F d hd E F _ _ _ h) (And.intro rfl (And.intro rfl trivial))
def b_M_giveAll_168 (F : Nat) (k168 : Int32 → mx_D → Option (mx_D)) (l2 : Int32) (D : mx_D) : Option (mx_D) := (if (D 117 6) ≤ l2 then (some D) else (rk 5 l2 (Option.bind (g_M_setStands l2 (D 129 (l2).toNatClampNeg) D) (fun r3 => (k168 (l2 + (nI 1)) r3)))))
set_option maxRecDepth 100000 in
set_option maxHeartbeats 4000000 in
theorem tb_M_giveAll_168 (X : ev_X) (F : Nat) (d : Nat) (hd : 6 ≤ d + 1) (E : mx_E) (k168 : Int32 → mx_D → Option (mx_D)) (K168 : ∀ (l2 : Int32) (D : mx_D) (v : mx_D), k168 l2 D = some v → ev X (d + 1) 270 (168, [some (.ref 116), none, some (.int l2), none], [], D, E) (qR none v E)) (l2 : Int32) (D : mx_D) (v : mx_D) (h : b_M_giveAll_168 F k168 l2 D = some v) : ev X (d + 1) 270 (168, [some (.ref 116), none, some (.int l2), none], [], D, E) (qR none v E) := by
  have hq : kq_m 270 = some kq_q270 := rfl
  unfold b_M_giveAll_168 at h
  refine gv_n hq 5 (S' := (176, [some (.ref 116), none, some (.int l2), none], [.int (D 117 6), .int l2], D, E)) rfl ?_
  refine gv_b hq rfl h 196 179 rfl rfl rfl (fun h => ?_) (fun h => ?_)
  · cases h
    exact ev_ret hq rfl rfl ⟨rfl, rfl, rfl⟩
  · refine gv_n hq 5 (S' := (186, [some (.ref 116), none, some (.int l2), none], [.int l2, .ref 129, .int l2, .ref 116], D, E)) rfl ?_
    refine gv_ia hq rfl rfl rfl h 187 rfl (fun h => ?_)
    obtain ⟨r3, h1, h⟩ := Option.bind_eq_some_iff.mp h
    refine gv_d hq rfl rfl rfl rfl rfl ((t_M_setStands X d E _ _ _ _ h1)) (S' := (190, [some (.ref 116), none, some (.int l2), none], [], r3, E)) rfl ?_
    refine gv_n hq 2 (S' := (168, [some (.ref 116), none, some (.int (l2 + (nI 1))), none], [], r3, E)) rfl ?_
    exact gv_w (K168 _ _ _ h) (And.intro rfl (And.intro rfl trivial))
def g_M_giveAll_168 (F : Nat) : Nat → Int32 → mx_D → Option (mx_D) := it (fun k168 => b_M_giveAll_168 F k168) (fun _ _ => none)
set_option maxRecDepth 100000 in
set_option maxHeartbeats 4000000 in
theorem t_M_giveAll_168 (X : ev_X) (F : Nat) (d : Nat) (hd : 6 ≤ d + 1) (E : mx_E)  : ∀ (n : Nat) (l2 : Int32) (D : mx_D) (v : mx_D), g_M_giveAll_168 F n l2 D = some v → ev X (d + 1) 270 (168, [some (.ref 116), none, some (.int l2), none], [], D, E) (qR none v E) := by
  intro n
  induction n with
  | zero => intro l2 D v h; cases h
  | succ n ih => intro l2 D v h; exact tb_M_giveAll_168 X F d hd E (g_M_giveAll_168 F n) ih l2 D v h
def b_M_giveAll_131 (F : Nat) (k46 : Int32 → mx_D → Option (mx_D)) (k131 : Int32 → Int32 → mx_D → Option (mx_D)) (l1 : Int32) (l3 : Int32) (D : mx_D) : Option (mx_D) := (if (D 117 6) ≤ l3 then (Option.bind (g_M_nextGiving F D) (fun r4 => (if r4.1 = 0 then (g_M_giveAll_168 F F (nI 0) r4.2) else (k46 l1 r4.2)))) else (Option.bind (g_M_standsOn D l3) (fun r5 => (rk 5 l3 (k131 l1 (l3 + (nI 1)) (sD D 130 (l3).toNatClampNeg r5))))))
set_option maxRecDepth 100000 in
set_option maxHeartbeats 4000000 in
theorem tb_M_giveAll_131 (X : ev_X) (F : Nat) (d : Nat) (hd : 6 ≤ d + 1) (E : mx_E) (k46 : Int32 → mx_D → Option (mx_D)) (k131 : Int32 → Int32 → mx_D → Option (mx_D)) (K46 : ∀ (l1 : Int32) (D : mx_D) (v : mx_D), k46 l1 D = some v → ev X (d + 1) 270 (46, [some (.ref 116), some (.int l1), none, none], [], D, E) (qR none v E)) (K131 : ∀ (l1 : Int32) (l3 : Int32) (D : mx_D) (v : mx_D), k131 l1 l3 D = some v → ev X (d + 1) 270 (131, [some (.ref 116), some (.int l1), none, some (.int l3)], [], D, E) (qR none v E)) (l1 : Int32) (l3 : Int32) (D : mx_D) (v : mx_D) (h : b_M_giveAll_131 F k46 k131 l1 l3 D = some v) : ev X (d + 1) 270 (131, [some (.ref 116), some (.int l1), none, some (.int l3)], [], D, E) (qR none v E) := by
  have hq : kq_m 270 = some kq_q270 := rfl
  unfold b_M_giveAll_131 at h
  refine gv_n hq 5 (S' := (139, [some (.ref 116), some (.int l1), none, some (.int l3)], [.int (D 117 6), .int l3], D, E)) rfl ?_
  refine gv_b hq rfl h 159 142 rfl rfl rfl (fun h => ?_) (fun h => ?_)
  · refine gv_n hq 1 (S' := (160, [some (.ref 116), some (.int l1), none, some (.int l3)], [.ref 116], D, E)) rfl ?_
    obtain ⟨r4, h1, h⟩ := Option.bind_eq_some_iff.mp h
    refine gv_d hq rfl rfl rfl rfl rfl (gv_dd (by omega) (t_M_nextGiving X F (d - 1) (by omega) E _ _ h1)) (S' := (163, [some (.ref 116), some (.int l1), none, some (.int l3)], [.int r4.1], r4.2, E)) rfl ?_
    refine gv_b hq rfl h 166 46 rfl rfl rfl (fun h => ?_) (fun h => ?_)
    · refine gv_n hq 2 (S' := (168, [some (.ref 116), some (.int l1), some (.int (nI 0)), some (.int l3)], [], r4.2, E)) rfl ?_
      exact gv_w (t_M_giveAll_168 X F d hd E F _ _ _ h) (And.intro rfl (And.intro rfl trivial))
    · exact gv_w (K46 _ _ _ h) (And.intro rfl (And.intro rfl trivial))
  · refine gv_n hq 5 (S' := (149, [some (.ref 116), some (.int l1), none, some (.int l3)], [.int l3, .ref 116, .int l3, .ref 130], D, E)) rfl ?_
    obtain ⟨r5, h1, h⟩ := Option.bind_eq_some_iff.mp h
    refine gv_d hq rfl rfl rfl rfl rfl ((t_M_standsOn X d D E _ _ h1)) (S' := (152, [some (.ref 116), some (.int l1), none, some (.int l3)], [.int r5, .int l3, .ref 130], D, E)) rfl ?_
    refine gv_is hq rfl rfl h 153 rfl (fun h => ?_)
    refine gv_n hq 2 (S' := (131, [some (.ref 116), some (.int l1), none, some (.int (l3 + (nI 1)))], [], (sD D 130 (l3).toNatClampNeg r5), E)) rfl ?_
    exact gv_w (K131 _ _ _ _ h) (And.intro rfl (And.intro rfl (And.intro rfl trivial)))
def g_M_giveAll_131 (F : Nat) (k46 : Int32 → mx_D → Option (mx_D)) : Nat → Int32 → Int32 → mx_D → Option (mx_D) := it (fun k131 => b_M_giveAll_131 F k46 k131) (fun _ _ _ => none)
set_option maxRecDepth 100000 in
set_option maxHeartbeats 4000000 in
theorem t_M_giveAll_131 (X : ev_X) (F : Nat) (d : Nat) (hd : 6 ≤ d + 1) (E : mx_E) (k46 : Int32 → mx_D → Option (mx_D)) (K46 : ∀ (l1 : Int32) (D : mx_D) (v : mx_D), k46 l1 D = some v → ev X (d + 1) 270 (46, [some (.ref 116), some (.int l1), none, none], [], D, E) (qR none v E)) : ∀ (n : Nat) (l1 : Int32) (l3 : Int32) (D : mx_D) (v : mx_D), g_M_giveAll_131 F k46 n l1 l3 D = some v → ev X (d + 1) 270 (131, [some (.ref 116), some (.int l1), none, some (.int l3)], [], D, E) (qR none v E) := by
  intro n
  induction n with
  | zero => intro l1 l3 D v h; cases h
  | succ n ih => intro l1 l3 D v h; exact tb_M_giveAll_131 X F d hd E k46 (g_M_giveAll_131 F k46 n) K46 ih l1 l3 D v h
def b_M_giveAll_105 (F : Nat) (k46 : Int32 → mx_D → Option (mx_D)) (l1 : Int32) (l2 : Int32) (D : mx_D) : Option (mx_D) := (if (D 116 26) = (-1 : Int32) then (g_M_giveAll_131 F k46 F l1 (nI 0) (sD D 116 26 l2)) else (if l2 < (D 116 26) then (g_M_giveAll_131 F k46 F l1 (nI 0) (sD D 116 26 l2)) else (Option.bind (g_M_nextGiving F D) (fun r6 => (if r6.1 = 0 then (g_M_giveAll_168 F F (nI 0) r6.2) else (k46 l1 r6.2))))))
set_option maxRecDepth 100000 in
set_option maxHeartbeats 4000000 in
theorem tb_M_giveAll_105 (X : ev_X) (F : Nat) (d : Nat) (hd : 6 ≤ d + 1) (E : mx_E) (k46 : Int32 → mx_D → Option (mx_D)) (K46 : ∀ (l1 : Int32) (D : mx_D) (v : mx_D), k46 l1 D = some v → ev X (d + 1) 270 (46, [some (.ref 116), some (.int l1), none, none], [], D, E) (qR none v E)) (l1 : Int32) (l2 : Int32) (D : mx_D) (v : mx_D) (h : b_M_giveAll_105 F k46 l1 l2 D = some v) : ev X (d + 1) 270 (105, [some (.ref 116), some (.int l1), some (.int l2), none], [], D, E) (qR none v E) := by
  have hq : kq_m 270 = some kq_q270 := rfl
  unfold b_M_giveAll_105 at h
  refine gv_n hq 3 (S' := (110, [some (.ref 116), some (.int l1), some (.int l2), none], [.int (-1 : Int32), .int (D 116 26)], D, E)) rfl ?_
  refine gv_b hq rfl h 124 113 rfl rfl rfl (fun h => ?_) (fun h => ?_)
  · refine gv_n hq 5 (S' := (131, [some (.ref 116), some (.int l1), some (.int l2), some (.int (nI 0))], [], (sD D 116 26 l2), E)) rfl ?_
    exact gv_w (t_M_giveAll_131 X F d hd E k46 K46 F _ _ _ _ h) (And.intro rfl (And.intro rfl (And.intro rfl trivial)))
  · refine gv_n hq 3 (S' := (118, [some (.ref 116), some (.int l1), some (.int l2), none], [.int (D 116 26), .int l2], D, E)) rfl ?_
    refine gv_b hq rfl h 124 121 rfl rfl rfl (fun h => ?_) (fun h => ?_)
    · refine gv_n hq 5 (S' := (131, [some (.ref 116), some (.int l1), some (.int l2), some (.int (nI 0))], [], (sD D 116 26 l2), E)) rfl ?_
      exact gv_w (t_M_giveAll_131 X F d hd E k46 K46 F _ _ _ _ h) (And.intro rfl (And.intro rfl (And.intro rfl trivial)))
    · refine gv_n hq 2 (S' := (160, [some (.ref 116), some (.int l1), some (.int l2), none], [.ref 116], D, E)) rfl ?_
      obtain ⟨r6, h1, h⟩ := Option.bind_eq_some_iff.mp h
      refine gv_d hq rfl rfl rfl rfl rfl (gv_dd (by omega) (t_M_nextGiving X F (d - 1) (by omega) E _ _ h1)) (S' := (163, [some (.ref 116), some (.int l1), some (.int l2), none], [.int r6.1], r6.2, E)) rfl ?_
      refine gv_b hq rfl h 166 46 rfl rfl rfl (fun h => ?_) (fun h => ?_)
      · refine gv_n hq 2 (S' := (168, [some (.ref 116), some (.int l1), some (.int (nI 0)), none], [], r6.2, E)) rfl ?_
        exact gv_w (t_M_giveAll_168 X F d hd E F _ _ _ h) (And.intro rfl (And.intro rfl trivial))
      · exact gv_w (K46 _ _ _ h) (And.intro rfl (And.intro rfl trivial))
def b_M_giveAll_71 (F : Nat) (k46 : Int32 → mx_D → Option (mx_D)) (k71 : Int32 → Int32 → Int32 → mx_D → Option (mx_D)) (l1 : Int32) (l2 : Int32) (l3 : Int32) (D : mx_D) : Option (mx_D) := (if (D 117 6) ≤ l3 then (b_M_giveAll_105 F k46 l1 l2 D) else (Option.bind (g_M_standsOn D l3) (fun r7 => (if r7 = (-1 : Int32) then (k71 l1 (l2 + (nI 0)) (l3 + (nI 1)) D) else (k71 l1 (l2 + (nI 1)) (l3 + (nI 1)) D)))))
set_option maxRecDepth 100000 in
set_option maxHeartbeats 4000000 in
theorem tb_M_giveAll_71 (X : ev_X) (F : Nat) (d : Nat) (hd : 6 ≤ d + 1) (E : mx_E) (k46 : Int32 → mx_D → Option (mx_D)) (k71 : Int32 → Int32 → Int32 → mx_D → Option (mx_D)) (K46 : ∀ (l1 : Int32) (D : mx_D) (v : mx_D), k46 l1 D = some v → ev X (d + 1) 270 (46, [some (.ref 116), some (.int l1), none, none], [], D, E) (qR none v E)) (K71 : ∀ (l1 : Int32) (l2 : Int32) (l3 : Int32) (D : mx_D) (v : mx_D), k71 l1 l2 l3 D = some v → ev X (d + 1) 270 (71, [some (.ref 116), some (.int l1), some (.int l2), some (.int l3)], [], D, E) (qR none v E)) (l1 : Int32) (l2 : Int32) (l3 : Int32) (D : mx_D) (v : mx_D) (h : b_M_giveAll_71 F k46 k71 l1 l2 l3 D = some v) : ev X (d + 1) 270 (71, [some (.ref 116), some (.int l1), some (.int l2), some (.int l3)], [], D, E) (qR none v E) := by
  have hq : kq_m 270 = some kq_q270 := rfl
  unfold b_M_giveAll_71 at h
  refine gv_n hq 5 (S' := (79, [some (.ref 116), some (.int l1), some (.int l2), some (.int l3)], [.int (D 117 6), .int l3], D, E)) rfl ?_
  refine gv_b hq rfl h 105 82 rfl rfl rfl (fun h => ?_) (fun h => ?_)
  · exact gv_w (tb_M_giveAll_105 X F d hd E k46 K46 _ _ _ _ h) (And.intro rfl (And.intro rfl (And.intro rfl trivial)))
  · refine gv_n hq 3 (S' := (85, [some (.ref 116), some (.int l1), some (.int l2), some (.int l3)], [.int l3, .ref 116, .int l2], D, E)) rfl ?_
    obtain ⟨r7, h1, h⟩ := Option.bind_eq_some_iff.mp h
    refine gv_d hq rfl rfl rfl rfl rfl ((t_M_standsOn X d D E _ _ h1)) (S' := (88, [some (.ref 116), some (.int l1), some (.int l2), some (.int l3)], [.int r7, .int l2], D, E)) rfl ?_
    refine gv_n hq 1 (S' := (89, [some (.ref 116), some (.int l1), some (.int l2), some (.int l3)], [.int (-1 : Int32), .int r7, .int l2], D, E)) rfl ?_
    refine gv_b hq rfl h 92 96 rfl rfl rfl (fun h => ?_) (fun h => ?_)
    · refine gv_n hq 6 (S' := (71, [some (.ref 116), some (.int l1), some (.int (l2 + (nI 0))), some (.int (l3 + (nI 1)))], [], D, E)) rfl ?_
      exact gv_w (K71 _ _ _ _ _ h) (And.intro rfl (And.intro rfl (And.intro rfl (And.intro rfl trivial))))
    · refine gv_n hq 5 (S' := (71, [some (.ref 116), some (.int l1), some (.int (l2 + (nI 1))), some (.int (l3 + (nI 1)))], [], D, E)) rfl ?_
      exact gv_w (K71 _ _ _ _ _ h) (And.intro rfl (And.intro rfl (And.intro rfl (And.intro rfl trivial))))
def g_M_giveAll_71 (F : Nat) (k46 : Int32 → mx_D → Option (mx_D)) : Nat → Int32 → Int32 → Int32 → mx_D → Option (mx_D) := it (fun k71 => b_M_giveAll_71 F k46 k71) (fun _ _ _ _ => none)
set_option maxRecDepth 100000 in
set_option maxHeartbeats 4000000 in
theorem t_M_giveAll_71 (X : ev_X) (F : Nat) (d : Nat) (hd : 6 ≤ d + 1) (E : mx_E) (k46 : Int32 → mx_D → Option (mx_D)) (K46 : ∀ (l1 : Int32) (D : mx_D) (v : mx_D), k46 l1 D = some v → ev X (d + 1) 270 (46, [some (.ref 116), some (.int l1), none, none], [], D, E) (qR none v E)) : ∀ (n : Nat) (l1 : Int32) (l2 : Int32) (l3 : Int32) (D : mx_D) (v : mx_D), g_M_giveAll_71 F k46 n l1 l2 l3 D = some v → ev X (d + 1) 270 (71, [some (.ref 116), some (.int l1), some (.int l2), some (.int l3)], [], D, E) (qR none v E) := by
  intro n
  induction n with
  | zero => intro l1 l2 l3 D v h; cases h
  | succ n ih => intro l1 l2 l3 D v h; exact tb_M_giveAll_71 X F d hd E k46 (g_M_giveAll_71 F k46 n) K46 ih l1 l2 l3 D v h
def b_M_giveAll_46 (F : Nat) (k46 : Int32 → mx_D → Option (mx_D)) (l1 : Int32) (D : mx_D) : Option (mx_D) := (Option.bind (g_M_isLevel F l1 D) (fun r1 => (if r1.1 = 0 then (Option.bind (g_M_nextGiving F r1.2) (fun r2 => (if r2.1 = 0 then (g_M_giveAll_168 F F (nI 0) r2.2) else (k46 l1 r2.2)))) else (g_M_giveAll_71 F k46 F l1 (nI 0) (nI 0) (sD r1.2 116 27 ((r1.2 116 27) + (nI 1)))))))
set_option maxRecDepth 100000 in
set_option maxHeartbeats 4000000 in
theorem tb_M_giveAll_46 (X : ev_X) (F : Nat) (d : Nat) (hd : 6 ≤ d + 1) (E : mx_E) (k46 : Int32 → mx_D → Option (mx_D)) (K46 : ∀ (l1 : Int32) (D : mx_D) (v : mx_D), k46 l1 D = some v → ev X (d + 1) 270 (46, [some (.ref 116), some (.int l1), none, none], [], D, E) (qR none v E)) (l1 : Int32) (D : mx_D) (v : mx_D) (h : b_M_giveAll_46 F k46 l1 D = some v) : ev X (d + 1) 270 (46, [some (.ref 116), some (.int l1), none, none], [], D, E) (qR none v E) := by
  have hq : kq_m 270 = some kq_q270 := rfl
  unfold b_M_giveAll_46 at h
  refine gv_n hq 2 (S' := (48, [some (.ref 116), some (.int l1), none, none], [.int l1, .ref 116], D, E)) rfl ?_
  obtain ⟨r1, h1, h⟩ := Option.bind_eq_some_iff.mp h
  refine gv_d hq rfl rfl rfl rfl rfl (gv_dd (by omega) (t_M_isLevel X F (d - 1) (by omega) E _ _ _ h1)) (S' := (51, [some (.ref 116), some (.int l1), none, none], [.int r1.1], r1.2, E)) rfl ?_
  refine gv_b hq rfl h 54 57 rfl rfl rfl (fun h => ?_) (fun h => ?_)
  · refine gv_n hq 2 (S' := (160, [some (.ref 116), some (.int l1), none, none], [.ref 116], r1.2, E)) rfl ?_
    obtain ⟨r2, h1, h⟩ := Option.bind_eq_some_iff.mp h
    refine gv_d hq rfl rfl rfl rfl rfl (gv_dd (by omega) (t_M_nextGiving X F (d - 1) (by omega) E _ _ h1)) (S' := (163, [some (.ref 116), some (.int l1), none, none], [.int r2.1], r2.2, E)) rfl ?_
    refine gv_b hq rfl h 166 46 rfl rfl rfl (fun h => ?_) (fun h => ?_)
    · refine gv_n hq 2 (S' := (168, [some (.ref 116), some (.int l1), some (.int (nI 0)), none], [], r2.2, E)) rfl ?_
      exact gv_w (t_M_giveAll_168 X F d hd E F _ _ _ h) (And.intro rfl (And.intro rfl trivial))
    · exact gv_w (K46 _ _ _ h) (And.intro rfl (And.intro rfl trivial))
  · refine gv_n hq 10 (S' := (71, [some (.ref 116), some (.int l1), some (.int (nI 0)), some (.int (nI 0))], [], (sD r1.2 116 27 ((r1.2 116 27) + (nI 1))), E)) rfl ?_
    exact gv_w (t_M_giveAll_71 X F d hd E k46 K46 F _ _ _ _ _ h) (And.intro rfl (And.intro rfl (And.intro rfl (And.intro rfl trivial))))
def g_M_giveAll_46 (F : Nat) : Nat → Int32 → mx_D → Option (mx_D) := it (fun k46 => b_M_giveAll_46 F k46) (fun _ _ => none)
set_option maxRecDepth 100000 in
set_option maxHeartbeats 4000000 in
theorem t_M_giveAll_46 (X : ev_X) (F : Nat) (d : Nat) (hd : 6 ≤ d + 1) (E : mx_E)  : ∀ (n : Nat) (l1 : Int32) (D : mx_D) (v : mx_D), g_M_giveAll_46 F n l1 D = some v → ev X (d + 1) 270 (46, [some (.ref 116), some (.int l1), none, none], [], D, E) (qR none v E) := by
  intro n
  induction n with
  | zero => intro l1 D v h; cases h
  | succ n ih => intro l1 D v h; exact tb_M_giveAll_46 X F d hd E (g_M_giveAll_46 F n) ih l1 D v h
def b_M_giveAll_12 (F : Nat) (k12 : Int32 → Int32 → mx_D → Option (mx_D)) (l1 : Int32) (l2 : Int32) (D : mx_D) : Option (mx_D) := (if (D 117 6) ≤ l2 then (g_M_giveAll_46 F F l1 D) else (Option.bind (g_M_standsOn D l2) (fun r8 => (rk 5 l2 (Option.bind (g_M_setStands l2 (-1 : Int32) (sD D 129 (l2).toNatClampNeg r8)) (fun r9 => (k12 l1 (l2 + (nI 1)) r9)))))))
set_option maxRecDepth 100000 in
set_option maxHeartbeats 4000000 in
theorem tb_M_giveAll_12 (X : ev_X) (F : Nat) (d : Nat) (hd : 6 ≤ d + 1) (E : mx_E) (k12 : Int32 → Int32 → mx_D → Option (mx_D)) (K12 : ∀ (l1 : Int32) (l2 : Int32) (D : mx_D) (v : mx_D), k12 l1 l2 D = some v → ev X (d + 1) 270 (12, [some (.ref 116), some (.int l1), some (.int l2), none], [], D, E) (qR none v E)) (l1 : Int32) (l2 : Int32) (D : mx_D) (v : mx_D) (h : b_M_giveAll_12 F k12 l1 l2 D = some v) : ev X (d + 1) 270 (12, [some (.ref 116), some (.int l1), some (.int l2), none], [], D, E) (qR none v E) := by
  have hq : kq_m 270 = some kq_q270 := rfl
  unfold b_M_giveAll_12 at h
  refine gv_n hq 5 (S' := (20, [some (.ref 116), some (.int l1), some (.int l2), none], [.int (D 117 6), .int l2], D, E)) rfl ?_
  refine gv_b hq rfl h 46 23 rfl rfl rfl (fun h => ?_) (fun h => ?_)
  · exact gv_w (t_M_giveAll_46 X F d hd E F _ _ _ h) (And.intro rfl (And.intro rfl trivial))
  · refine gv_n hq 5 (S' := (30, [some (.ref 116), some (.int l1), some (.int l2), none], [.int l2, .ref 116, .int l2, .ref 129], D, E)) rfl ?_
    obtain ⟨r8, h1, h⟩ := Option.bind_eq_some_iff.mp h
    refine gv_d hq rfl rfl rfl rfl rfl ((t_M_standsOn X d D E _ _ h1)) (S' := (33, [some (.ref 116), some (.int l1), some (.int l2), none], [.int r8, .int l2, .ref 129], D, E)) rfl ?_
    refine gv_is hq rfl rfl h 34 rfl (fun h => ?_)
    refine gv_n hq 3 (S' := (37, [some (.ref 116), some (.int l1), some (.int l2), none], [.int (-1 : Int32), .int l2, .ref 116], (sD D 129 (l2).toNatClampNeg r8), E)) rfl ?_
    obtain ⟨r9, h1, h⟩ := Option.bind_eq_some_iff.mp h
    refine gv_d hq rfl rfl rfl rfl rfl ((t_M_setStands X d E _ _ _ _ h1)) (S' := (40, [some (.ref 116), some (.int l1), some (.int l2), none], [], r9, E)) rfl ?_
    refine gv_n hq 2 (S' := (12, [some (.ref 116), some (.int l1), some (.int (l2 + (nI 1))), none], [], r9, E)) rfl ?_
    exact gv_w (K12 _ _ _ _ h) (And.intro rfl (And.intro rfl (And.intro rfl trivial)))
def g_M_giveAll_12 (F : Nat) : Nat → Int32 → Int32 → mx_D → Option (mx_D) := it (fun k12 => b_M_giveAll_12 F k12) (fun _ _ _ => none)
set_option maxRecDepth 100000 in
set_option maxHeartbeats 4000000 in
theorem t_M_giveAll_12 (X : ev_X) (F : Nat) (d : Nat) (hd : 6 ≤ d + 1) (E : mx_E)  : ∀ (n : Nat) (l1 : Int32) (l2 : Int32) (D : mx_D) (v : mx_D), g_M_giveAll_12 F n l1 l2 D = some v → ev X (d + 1) 270 (12, [some (.ref 116), some (.int l1), some (.int l2), none], [], D, E) (qR none v E) := by
  intro n
  induction n with
  | zero => intro l1 l2 D v h; cases h
  | succ n ih => intro l1 l2 D v h; exact tb_M_giveAll_12 X F d hd E (g_M_giveAll_12 F n) ih l1 l2 D v h
def g_M_giveAll (F : Nat) (a1 : Int32) (D : mx_D) : Option (mx_D) := (g_M_giveAll_12 F F a1 (nI 0) (sD (sD D 116 26 (-1 : Int32)) 116 27 (nI 0)))
set_option maxRecDepth 100000 in
set_option maxHeartbeats 4000000 in
theorem t_M_giveAll (X : ev_X) (F : Nat) (d : Nat) (hd : 6 ≤ d + 1) (E : mx_E) (a1 : Int32) (D : mx_D) (v : mx_D) (h : g_M_giveAll F a1 D = some v) : ev X (d + 1) 270 (0, [some (.ref 116), some (.int a1), none, none], [], D, E) (qR none v E) := by
  have hq : kq_m 270 = some kq_q270 := rfl
  unfold g_M_giveAll at h
  refine gv_n hq 8 (S' := (12, [some (.ref 116), some (.int a1), some (.int (nI 0)), none], [], (sD (sD D 116 26 (-1 : Int32)) 116 27 (nI 0)), E)) rfl ?_
  exact gv_w (t_M_giveAll_12 X F d hd E F _ _ _ _ h) (And.intro rfl (And.intro rfl (And.intro rfl trivial)))
def g_M_books (F : Nat) (a1 : Int32) (D : mx_D) : Option (Int32 × mx_D) := (if (g_M_isYear D a1) = 0 then (some ((-2 : Int32), D)) else (Option.bind (g_M_giveAll F a1 D) (fun r1 => (some ((r1 116 26), r1)))))
set_option maxRecDepth 100000 in
set_option maxHeartbeats 4000000 in
theorem t_M_books (X : ev_X) (F : Nat) (d : Nat) (hd : 7 ≤ d + 1) (E : mx_E) (a1 : Int32) (D : mx_D) (v : Int32 × mx_D) (h : g_M_books F a1 D = some v) : ev X (d + 1) 269 (0, [some (.ref 116), some (.int a1)], [], D, E) (qR (some (.int v.1)) v.2 E) := by
  have hq : kq_m 269 = some kq_q269 := rfl
  unfold g_M_books at h
  refine gv_n hq 2 (S' := (2, [some (.ref 116), some (.int a1)], [.int a1, .ref 116], D, E)) rfl ?_
  refine gv_d hq rfl rfl rfl rfl rfl (gv_dd (by omega) (t_M_isYear X (d - 1) (by omega) D E _ _ rfl)) (S' := (5, [some (.ref 116), some (.int a1)], [.int (g_M_isYear D a1)], D, E)) rfl ?_
  refine gv_b hq rfl h 8 11 rfl rfl rfl (fun h => ?_) (fun h => ?_)
  · refine gv_n hq 1 (S' := (10, [some (.ref 116), some (.int a1)], [.int (-2 : Int32)], D, E)) rfl ?_
    cases h
    exact ev_ret hq rfl rfl ⟨rfl, rfl, rfl⟩
  · refine gv_n hq 2 (S' := (13, [some (.ref 116), some (.int a1)], [.int a1, .ref 116], D, E)) rfl ?_
    obtain ⟨r1, h1, h⟩ := Option.bind_eq_some_iff.mp h
    refine gv_d hq rfl rfl rfl rfl rfl (gv_dd (by omega) (t_M_giveAll X F (d - 1) (by omega) E _ _ _ h1)) (S' := (16, [some (.ref 116), some (.int a1)], [], r1, E)) rfl ?_
    refine gv_n hq 2 (S' := (20, [some (.ref 116), some (.int a1)], [.int (r1 116 26)], r1, E)) rfl ?_
    cases h
    exact ev_ret hq rfl rfl ⟨rfl, rfl, rfl⟩
def b_BookSearch_ownerOf_17 (F : Nat) (D : mx_D) (k17 : Int32 → Int32 → Int32 → Option (Int32)) (l1 : Int32) (l2 : Int32) (l3 : Int32) : Option (Int32) := (if l3 ≤ l1 then (some ((l2 - l2 / (nI 9) * (nI 9)) - (nI 1))) else (k17 l1 (l2 / (nI 9)) (l3 + (-1 : Int32))))
set_option maxRecDepth 100000 in
set_option maxHeartbeats 4000000 in
theorem tb_BookSearch_ownerOf_17 (X : ev_X) (F : Nat) (d : Nat) (D : mx_D) (E : mx_E) (k17 : Int32 → Int32 → Int32 → Option (Int32)) (K17 : ∀ (l1 : Int32) (l2 : Int32) (l3 : Int32) (v : Int32), k17 l1 l2 l3 = some v → ev X d 5 (17, [none, some (.int l1), some (.int l2), some (.int l3)], [], D, E) (qR (some (.int v)) D E)) (l1 : Int32) (l2 : Int32) (l3 : Int32) (v : Int32) (h : b_BookSearch_ownerOf_17 F D k17 l1 l2 l3 = some v) : ev X d 5 (17, [none, some (.int l1), some (.int l2), some (.int l3)], [], D, E) (qR (some (.int v)) D E) := by
  have hq : kq_m 5 = some kq_q5 := rfl
  unfold b_BookSearch_ownerOf_17 at h
  refine gv_n hq 2 (S' := (19, [none, some (.int l1), some (.int l2), some (.int l3)], [.int l1, .int l3], D, E)) rfl ?_
  refine gv_b hq rfl h 33 22 rfl rfl rfl (fun h => ?_) (fun h => ?_)
  · refine gv_n hq 5 (S' := (39, [none, some (.int l1), some (.int l2), some (.int l3)], [.int ((l2 - l2 / (nI 9) * (nI 9)) - (nI 1))], D, E)) rfl ?_
    cases h
    exact ev_ret hq rfl rfl ⟨rfl, rfl, rfl⟩
  · refine gv_n hq 6 (S' := (17, [none, some (.int l1), some (.int (l2 / (nI 9))), some (.int (l3 + (-1 : Int32)))], [], D, E)) rfl ?_
    exact gv_w (K17 _ _ _ _ h) (And.intro rfl (And.intro rfl (And.intro rfl trivial)))
def g_BookSearch_ownerOf_17 (F : Nat) (D : mx_D) : Nat → Int32 → Int32 → Int32 → Option (Int32) := it (fun k17 => b_BookSearch_ownerOf_17 F D k17) (fun _ _ _ => none)
set_option maxRecDepth 100000 in
set_option maxHeartbeats 4000000 in
theorem t_BookSearch_ownerOf_17 (X : ev_X) (F : Nat) (d : Nat) (D : mx_D) (E : mx_E)  : ∀ (n : Nat) (l1 : Int32) (l2 : Int32) (l3 : Int32) (v : Int32), g_BookSearch_ownerOf_17 F D n l1 l2 l3 = some v → ev X d 5 (17, [none, some (.int l1), some (.int l2), some (.int l3)], [], D, E) (qR (some (.int v)) D E) := by
  intro n
  induction n with
  | zero => intro l1 l2 l3 v h; cases h
  | succ n ih => intro l1 l2 l3 v h; exact tb_BookSearch_ownerOf_17 X F d D E (g_BookSearch_ownerOf_17 F D n) ih l1 l2 l3 v h
def g_BookSearch_ownerOf (F : Nat) (D : mx_D) (a1 : Int32) : Option (Int32) := (if (D 45 7) = (-1 : Int32) then (some (-1 : Int32)) else (g_BookSearch_ownerOf_17 F D F a1 (D 45 7) (nI 4)))
set_option maxRecDepth 100000 in
set_option maxHeartbeats 4000000 in
theorem t_BookSearch_ownerOf (X : ev_X) (F : Nat) (d : Nat) (D : mx_D) (E : mx_E) (a1 : Int32) (v : Int32) (h : g_BookSearch_ownerOf F D a1 = some v) : ev X d 5 (0, [some (.ref 45), some (.int a1), none, none], [], D, E) (qR (some (.int v)) D E) := by
  have hq : kq_m 5 = some kq_q5 := rfl
  unfold g_BookSearch_ownerOf at h
  refine gv_n hq 3 (S' := (5, [some (.ref 45), some (.int a1), none, none], [.int (-1 : Int32), .int (D 45 7)], D, E)) rfl ?_
  refine gv_b hq rfl h 8 10 rfl rfl rfl (fun h => ?_) (fun h => ?_)
  · refine gv_n hq 1 (S' := (9, [some (.ref 45), some (.int a1), none, none], [.int (-1 : Int32)], D, E)) rfl ?_
    cases h
    exact ev_ret hq rfl rfl ⟨rfl, rfl, rfl⟩
  · refine gv_n hq 5 (S' := (17, [some (.ref 45), some (.int a1), some (.int (D 45 7)), some (.int (nI 4))], [], D, E)) rfl ?_
    exact gv_w (t_BookSearch_ownerOf_17 X F d D E F _ _ _ _ h) (And.intro rfl (And.intro rfl (And.intro rfl trivial)))
def g_X_given (F : Nat) (a1 : Int32) (a2 : Int32) (D : mx_D) : Option (Int32 × mx_D) := (if (g_X_canAsk D a1) = 0 then (some ((-2 : Int32), D)) else (if (g_Church_hasBook D a2) = 0 then (some ((-2 : Int32), D)) else (Option.bind (g_BookSearch_findFewest F a1 D) (fun r1 => (Option.bind (g_BookSearch_ownerOf F r1 a2) (fun r2 => (some (r2, r1))))))))
set_option maxRecDepth 100000 in
set_option maxHeartbeats 4000000 in
theorem t_X_given (X : ev_X) (F : Nat) (d : Nat) (hd : 104 ≤ d + 1) (E : mx_E) (a1 : Int32) (a2 : Int32) (D : mx_D) (v : Int32 × mx_D) (h : g_X_given F a1 a2 D = some v) : ev X (d + 1) 142 (0, [some (.ref 0), some (.int a1), some (.int a2)], [], D, E) (qR (some (.int v.1)) v.2 E) := by
  have hq : kq_m 142 = some kq_q142 := rfl
  unfold g_X_given at h
  refine gv_n hq 2 (S' := (2, [some (.ref 0), some (.int a1), some (.int a2)], [.int a1, .ref 0], D, E)) rfl ?_
  refine gv_d hq rfl rfl rfl rfl rfl (gv_dd (by omega) (t_X_canAsk X (d - 1) (by omega) D E _ _ rfl)) (S' := (5, [some (.ref 0), some (.int a1), some (.int a2)], [.int (g_X_canAsk D a1)], D, E)) rfl ?_
  refine gv_b hq rfl h 19 8 rfl rfl rfl (fun h => ?_) (fun h => ?_)
  · refine gv_n hq 1 (S' := (21, [some (.ref 0), some (.int a1), some (.int a2)], [.int (-2 : Int32)], D, E)) rfl ?_
    cases h
    exact ev_ret hq rfl rfl ⟨rfl, rfl, rfl⟩
  · refine gv_n hq 3 (S' := (13, [some (.ref 0), some (.int a1), some (.int a2)], [.int a2, .ref 19], D, E)) rfl ?_
    refine gv_d hq rfl rfl rfl rfl rfl ((t_Church_hasBook X d D E _ _ rfl)) (S' := (16, [some (.ref 0), some (.int a1), some (.int a2)], [.int (g_Church_hasBook D a2)], D, E)) rfl ?_
    refine gv_b hq rfl h 19 22 rfl rfl rfl (fun h => ?_) (fun h => ?_)
    · refine gv_n hq 1 (S' := (21, [some (.ref 0), some (.int a1), some (.int a2)], [.int (-2 : Int32)], D, E)) rfl ?_
      cases h
      exact ev_ret hq rfl rfl ⟨rfl, rfl, rfl⟩
    · refine gv_n hq 3 (S' := (27, [some (.ref 0), some (.int a1), some (.int a2)], [.int a1, .ref 45], D, E)) rfl ?_
      obtain ⟨r1, h1, h⟩ := Option.bind_eq_some_iff.mp h
      refine gv_d hq rfl rfl rfl rfl rfl (gv_dd (by omega) (t_BookSearch_findFewest X F (d - 1) (by omega) E _ _ _ h1)) (S' := (30, [some (.ref 0), some (.int a1), some (.int a2)], [], r1, E)) rfl ?_
      refine gv_n hq 3 (S' := (35, [some (.ref 0), some (.int a1), some (.int a2)], [.int a2, .ref 45], r1, E)) rfl ?_
      obtain ⟨r2, h1, h⟩ := Option.bind_eq_some_iff.mp h
      refine gv_d hq rfl rfl rfl rfl rfl ((t_BookSearch_ownerOf X F d r1 E _ _ h1)) (S' := (38, [some (.ref 0), some (.int a1), some (.int a2)], [.int r2], r1, E)) rfl ?_
      cases h
      exact ev_ret hq rfl rfl ⟨rfl, rfl, rfl⟩
def g_M_given (F : Nat) (a1 : Int32) (a2 : Int32) (D : mx_D) : Option (Int32 × mx_D) := (if (g_M_isYear D a1) = 0 then (some ((-2 : Int32), D)) else (if (g_M_isBook D a2) = 0 then (some ((-2 : Int32), D)) else (Option.bind (g_M_giveAll F a1 D) (fun r1 => (if (r1 116 26) = (-1 : Int32) then (some ((-1 : Int32), r1)) else (rk 5 a2 (some ((r1 130 (a2).toNatClampNeg), r1))))))))
set_option maxRecDepth 100000 in
set_option maxHeartbeats 4000000 in
theorem t_M_given (X : ev_X) (F : Nat) (d : Nat) (hd : 7 ≤ d + 1) (E : mx_E) (a1 : Int32) (a2 : Int32) (D : mx_D) (v : Int32 × mx_D) (h : g_M_given F a1 a2 D = some v) : ev X (d + 1) 273 (0, [some (.ref 116), some (.int a1), some (.int a2)], [], D, E) (qR (some (.int v.1)) v.2 E) := by
  have hq : kq_m 273 = some kq_q273 := rfl
  unfold g_M_given at h
  refine gv_n hq 2 (S' := (2, [some (.ref 116), some (.int a1), some (.int a2)], [.int a1, .ref 116], D, E)) rfl ?_
  refine gv_d hq rfl rfl rfl rfl rfl (gv_dd (by omega) (t_M_isYear X (d - 1) (by omega) D E _ _ rfl)) (S' := (5, [some (.ref 116), some (.int a1), some (.int a2)], [.int (g_M_isYear D a1)], D, E)) rfl ?_
  refine gv_b hq rfl h 16 8 rfl rfl rfl (fun h => ?_) (fun h => ?_)
  · refine gv_n hq 1 (S' := (18, [some (.ref 116), some (.int a1), some (.int a2)], [.int (-2 : Int32)], D, E)) rfl ?_
    cases h
    exact ev_ret hq rfl rfl ⟨rfl, rfl, rfl⟩
  · refine gv_n hq 2 (S' := (10, [some (.ref 116), some (.int a1), some (.int a2)], [.int a2, .ref 116], D, E)) rfl ?_
    refine gv_d hq rfl rfl rfl rfl rfl (gv_dd (by omega) (t_M_isBook X (d - 1) (by omega) D E _ _ rfl)) (S' := (13, [some (.ref 116), some (.int a1), some (.int a2)], [.int (g_M_isBook D a2)], D, E)) rfl ?_
    refine gv_b hq rfl h 16 19 rfl rfl rfl (fun h => ?_) (fun h => ?_)
    · refine gv_n hq 1 (S' := (18, [some (.ref 116), some (.int a1), some (.int a2)], [.int (-2 : Int32)], D, E)) rfl ?_
      cases h
      exact ev_ret hq rfl rfl ⟨rfl, rfl, rfl⟩
    · refine gv_n hq 2 (S' := (21, [some (.ref 116), some (.int a1), some (.int a2)], [.int a1, .ref 116], D, E)) rfl ?_
      obtain ⟨r1, h1, h⟩ := Option.bind_eq_some_iff.mp h
      refine gv_d hq rfl rfl rfl rfl rfl (gv_dd (by omega) (t_M_giveAll X F (d - 1) (by omega) E _ _ _ h1)) (S' := (24, [some (.ref 116), some (.int a1), some (.int a2)], [], r1, E)) rfl ?_
      refine gv_n hq 3 (S' := (29, [some (.ref 116), some (.int a1), some (.int a2)], [.int (-1 : Int32), .int (r1 116 26)], r1, E)) rfl ?_
      refine gv_b hq rfl h 32 36 rfl rfl rfl (fun h => ?_) (fun h => ?_)
      · refine gv_n hq 2 (S' := (42, [some (.ref 116), some (.int a1), some (.int a2)], [.int (-1 : Int32)], r1, E)) rfl ?_
        cases h
        exact ev_ret hq rfl rfl ⟨rfl, rfl, rfl⟩
      · refine gv_n hq 3 (S' := (41, [some (.ref 116), some (.int a1), some (.int a2)], [.int a2, .ref 130], r1, E)) rfl ?_
        refine gv_ia hq rfl rfl rfl h 42 rfl (fun h => ?_)
        cases h
        exact ev_ret hq rfl rfl ⟨rfl, rfl, rfl⟩
def g_BookSearch_findAll (F : Nat) (a1 : Int32) (D : mx_D) : Option (mx_D) := (Option.bind (g_BookSearch_begin F a1 D) (fun r1 => (Option.bind (g_BookSearch_give F 20 (nI 0) (((nI 1) <<< ((r1 19 12) &&& 31)) - (nI 1)) (nI 0) (r1 19 12) r1) (fun r2 => (some r2)))))
set_option maxRecDepth 100000 in
set_option maxHeartbeats 4000000 in
theorem t_BookSearch_findAll (X : ev_X) (F : Nat) (d : Nat) (hd : 103 ≤ d + 1) (E : mx_E) (a1 : Int32) (D : mx_D) (v : mx_D) (h : g_BookSearch_findAll F a1 D = some v) : ev X (d + 1) 6 (0, [some (.ref 45), some (.int a1)], [], D, E) (qR none v E) := by
  have hq : kq_m 6 = some kq_q6 := rfl
  unfold g_BookSearch_findAll at h
  refine gv_n hq 2 (S' := (2, [some (.ref 45), some (.int a1)], [.int a1, .ref 45], D, E)) rfl ?_
  obtain ⟨r1, h1, h⟩ := Option.bind_eq_some_iff.mp h
  refine gv_d hq rfl rfl rfl rfl rfl (gv_dd (by omega) (t_BookSearch_begin X F (d - 1) (by omega) E _ _ _ h1)) (S' := (5, [some (.ref 45), some (.int a1)], [], r1, E)) rfl ?_
  refine gv_n hq 13 (S' := (26, [some (.ref 45), some (.int a1)], [.int (r1 19 12), .int (nI 0), .int (((nI 1) <<< ((r1 19 12) &&& 31)) - (nI 1)), .int (nI 0), .ref 45], r1, E)) rfl ?_
  obtain ⟨r2, h1, h⟩ := Option.bind_eq_some_iff.mp h
  refine gv_d hq rfl rfl rfl rfl rfl (gv_dd (by omega) (t_BookSearch_give X F E 20 (d - 1) (by omega) _ _ _ _ _ _ h1)) (S' := (29, [some (.ref 45), some (.int a1)], [], r2, E)) rfl ?_
  cases h
  exact ev_ret hq rfl rfl ⟨rfl, rfl, rfl⟩
def g_X_gifts (F : Nat) (a1 : Int32) (D : mx_D) : Option (Int32 × mx_D) := (if (g_X_canAsk D a1) = 0 then (some ((-2 : Int32), D)) else (Option.bind (g_BookSearch_findAll F a1 D) (fun r1 => (some ((r1 45 0), r1)))))
set_option maxRecDepth 100000 in
set_option maxHeartbeats 4000000 in
theorem t_X_gifts (X : ev_X) (F : Nat) (d : Nat) (hd : 104 ≤ d + 1) (E : mx_E) (a1 : Int32) (D : mx_D) (v : Int32 × mx_D) (h : g_X_gifts F a1 D = some v) : ev X (d + 1) 143 (0, [some (.ref 0), some (.int a1)], [], D, E) (qR (some (.int v.1)) v.2 E) := by
  have hq : kq_m 143 = some kq_q143 := rfl
  unfold g_X_gifts at h
  refine gv_n hq 2 (S' := (2, [some (.ref 0), some (.int a1)], [.int a1, .ref 0], D, E)) rfl ?_
  refine gv_d hq rfl rfl rfl rfl rfl (gv_dd (by omega) (t_X_canAsk X (d - 1) (by omega) D E _ _ rfl)) (S' := (5, [some (.ref 0), some (.int a1)], [.int (g_X_canAsk D a1)], D, E)) rfl ?_
  refine gv_b hq rfl h 8 11 rfl rfl rfl (fun h => ?_) (fun h => ?_)
  · refine gv_n hq 1 (S' := (10, [some (.ref 0), some (.int a1)], [.int (-2 : Int32)], D, E)) rfl ?_
    cases h
    exact ev_ret hq rfl rfl ⟨rfl, rfl, rfl⟩
  · refine gv_n hq 3 (S' := (16, [some (.ref 0), some (.int a1)], [.int a1, .ref 45], D, E)) rfl ?_
    obtain ⟨r1, h1, h⟩ := Option.bind_eq_some_iff.mp h
    refine gv_d hq rfl rfl rfl rfl rfl (gv_dd (by omega) (t_BookSearch_findAll X F (d - 1) (by omega) E _ _ _ h1)) (S' := (19, [some (.ref 0), some (.int a1)], [], r1, E)) rfl ?_
    refine gv_n hq 3 (S' := (26, [some (.ref 0), some (.int a1)], [.int (r1 45 0)], r1, E)) rfl ?_
    cases h
    exact ev_ret hq rfl rfl ⟨rfl, rfl, rfl⟩
def g_M_gifts (F : Nat) (a1 : Int32) (D : mx_D) : Option (Int32 × mx_D) := (if (g_M_isYear D a1) = 0 then (some ((-2 : Int32), D)) else (Option.bind (g_M_giveAll F a1 D) (fun r1 => (some ((r1 116 27), r1)))))
set_option maxRecDepth 100000 in
set_option maxHeartbeats 4000000 in
theorem t_M_gifts (X : ev_X) (F : Nat) (d : Nat) (hd : 7 ≤ d + 1) (E : mx_E) (a1 : Int32) (D : mx_D) (v : Int32 × mx_D) (h : g_M_gifts F a1 D = some v) : ev X (d + 1) 274 (0, [some (.ref 116), some (.int a1)], [], D, E) (qR (some (.int v.1)) v.2 E) := by
  have hq : kq_m 274 = some kq_q274 := rfl
  unfold g_M_gifts at h
  refine gv_n hq 2 (S' := (2, [some (.ref 116), some (.int a1)], [.int a1, .ref 116], D, E)) rfl ?_
  refine gv_d hq rfl rfl rfl rfl rfl (gv_dd (by omega) (t_M_isYear X (d - 1) (by omega) D E _ _ rfl)) (S' := (5, [some (.ref 116), some (.int a1)], [.int (g_M_isYear D a1)], D, E)) rfl ?_
  refine gv_b hq rfl h 8 11 rfl rfl rfl (fun h => ?_) (fun h => ?_)
  · refine gv_n hq 1 (S' := (10, [some (.ref 116), some (.int a1)], [.int (-2 : Int32)], D, E)) rfl ?_
    cases h
    exact ev_ret hq rfl rfl ⟨rfl, rfl, rfl⟩
  · refine gv_n hq 2 (S' := (13, [some (.ref 116), some (.int a1)], [.int a1, .ref 116], D, E)) rfl ?_
    obtain ⟨r1, h1, h⟩ := Option.bind_eq_some_iff.mp h
    refine gv_d hq rfl rfl rfl rfl rfl (gv_dd (by omega) (t_M_giveAll X F (d - 1) (by omega) E _ _ _ h1)) (S' := (16, [some (.ref 116), some (.int a1)], [], r1, E)) rfl ?_
    refine gv_n hq 2 (S' := (20, [some (.ref 116), some (.int a1)], [.int (r1 116 27)], r1, E)) rfl ?_
    cases h
    exact ev_ret hq rfl rfl ⟨rfl, rfl, rfl⟩
def b_Arrays_fill_53_5 (F : Nat) (k5 : Int32 → Int32 → Int32 → mx_D → Option (mx_D)) (l1 : Int32) (l2 : Int32) (l3 : Int32) (D : mx_D) : Option (mx_D) := (if l3 ≤ l2 then (some D) else (rk 8 l2 (k5 l1 (l2 + (nI 1)) l3 (sD D 53 (l2).toNatClampNeg l1))))
set_option maxRecDepth 100000 in
set_option maxHeartbeats 4000000 in
theorem tb_Arrays_fill_53_5 (X : ev_X) (F : Nat) (d : Nat) (E : mx_E) (k5 : Int32 → Int32 → Int32 → mx_D → Option (mx_D)) (K5 : ∀ (l1 : Int32) (l2 : Int32) (l3 : Int32) (D : mx_D) (v : mx_D), k5 l1 l2 l3 D = some v → ev X d 333 (5, [some (.ref 53), some (.int l1), some (.int l2), some (.int l3)], [], D, E) (qR none v E)) (l1 : Int32) (l2 : Int32) (l3 : Int32) (D : mx_D) (v : mx_D) (h : b_Arrays_fill_53_5 F k5 l1 l2 l3 D = some v) : ev X d 333 (5, [some (.ref 53), some (.int l1), some (.int l2), some (.int l3)], [], D, E) (qR none v E) := by
  have hq : kq_m 333 = some kq_q333 := rfl
  unfold b_Arrays_fill_53_5 at h
  refine gv_n hq 2 (S' := (7, [some (.ref 53), some (.int l1), some (.int l2), some (.int l3)], [.int l3, .int l2], D, E)) rfl ?_
  refine gv_b hq rfl h 20 10 rfl rfl rfl (fun h => ?_) (fun h => ?_)
  · cases h
    exact ev_ret hq rfl rfl ⟨rfl, rfl, rfl⟩
  · refine gv_n hq 3 (S' := (13, [some (.ref 53), some (.int l1), some (.int l2), some (.int l3)], [.int l1, .int l2, .ref 53], D, E)) rfl ?_
    refine gv_is hq rfl rfl h 14 rfl (fun h => ?_)
    refine gv_n hq 2 (S' := (5, [some (.ref 53), some (.int l1), some (.int (l2 + (nI 1))), some (.int l3)], [], (sD D 53 (l2).toNatClampNeg l1), E)) rfl ?_
    exact gv_w (K5 _ _ _ _ _ h) (And.intro rfl (And.intro rfl (And.intro rfl (And.intro rfl trivial))))
def g_Arrays_fill_53_5 (F : Nat) : Nat → Int32 → Int32 → Int32 → mx_D → Option (mx_D) := it (fun k5 => b_Arrays_fill_53_5 F k5) (fun _ _ _ _ => none)
set_option maxRecDepth 100000 in
set_option maxHeartbeats 4000000 in
theorem t_Arrays_fill_53_5 (X : ev_X) (F : Nat) (d : Nat) (E : mx_E)  : ∀ (n : Nat) (l1 : Int32) (l2 : Int32) (l3 : Int32) (D : mx_D) (v : mx_D), g_Arrays_fill_53_5 F n l1 l2 l3 D = some v → ev X d 333 (5, [some (.ref 53), some (.int l1), some (.int l2), some (.int l3)], [], D, E) (qR none v E) := by
  intro n
  induction n with
  | zero => intro l1 l2 l3 D v h; cases h
  | succ n ih => intro l1 l2 l3 D v h; exact tb_Arrays_fill_53_5 X F d E (g_Arrays_fill_53_5 F n) ih l1 l2 l3 D v h
def g_Arrays_fill_53 (F : Nat) (a1 : Int32) (D : mx_D) : Option (mx_D) := (g_Arrays_fill_53_5 F F a1 (nI 0) (nI 8) D)
set_option maxRecDepth 100000 in
set_option maxHeartbeats 4000000 in
theorem t_Arrays_fill_53 (X : ev_X) (F : Nat) (d : Nat) (E : mx_E) (a1 : Int32) (D : mx_D) (v : mx_D) (h : g_Arrays_fill_53 F a1 D = some v) : ev X d 333 (0, [some (.ref 53), some (.int a1), none, none], [], D, E) (qR none v E) := by
  have hq : kq_m 333 = some kq_q333 := rfl
  unfold g_Arrays_fill_53 at h
  refine gv_n hq 5 (S' := (5, [some (.ref 53), some (.int a1), some (.int (nI 0)), some (.int (nI 8))], [], D, E)) rfl ?_
  exact gv_w (t_Arrays_fill_53_5 X F d E F _ _ _ _ _ h) (And.intro rfl (And.intro rfl (And.intro rfl (And.intro rfl trivial))))
def b_Arrays_fill_55_5 (F : Nat) (k5 : Int32 → Int32 → Int32 → mx_D → Option (mx_D)) (l1 : Int32) (l2 : Int32) (l3 : Int32) (D : mx_D) : Option (mx_D) := (if l3 ≤ l2 then (some D) else (rk 4 l2 (k5 l1 (l2 + (nI 1)) l3 (sD D 55 (l2).toNatClampNeg l1))))
set_option maxRecDepth 100000 in
set_option maxHeartbeats 4000000 in
theorem tb_Arrays_fill_55_5 (X : ev_X) (F : Nat) (d : Nat) (E : mx_E) (k5 : Int32 → Int32 → Int32 → mx_D → Option (mx_D)) (K5 : ∀ (l1 : Int32) (l2 : Int32) (l3 : Int32) (D : mx_D) (v : mx_D), k5 l1 l2 l3 D = some v → ev X d 333 (5, [some (.ref 55), some (.int l1), some (.int l2), some (.int l3)], [], D, E) (qR none v E)) (l1 : Int32) (l2 : Int32) (l3 : Int32) (D : mx_D) (v : mx_D) (h : b_Arrays_fill_55_5 F k5 l1 l2 l3 D = some v) : ev X d 333 (5, [some (.ref 55), some (.int l1), some (.int l2), some (.int l3)], [], D, E) (qR none v E) := by
  have hq : kq_m 333 = some kq_q333 := rfl
  unfold b_Arrays_fill_55_5 at h
  refine gv_n hq 2 (S' := (7, [some (.ref 55), some (.int l1), some (.int l2), some (.int l3)], [.int l3, .int l2], D, E)) rfl ?_
  refine gv_b hq rfl h 20 10 rfl rfl rfl (fun h => ?_) (fun h => ?_)
  · cases h
    exact ev_ret hq rfl rfl ⟨rfl, rfl, rfl⟩
  · refine gv_n hq 3 (S' := (13, [some (.ref 55), some (.int l1), some (.int l2), some (.int l3)], [.int l1, .int l2, .ref 55], D, E)) rfl ?_
    refine gv_is hq rfl rfl h 14 rfl (fun h => ?_)
    refine gv_n hq 2 (S' := (5, [some (.ref 55), some (.int l1), some (.int (l2 + (nI 1))), some (.int l3)], [], (sD D 55 (l2).toNatClampNeg l1), E)) rfl ?_
    exact gv_w (K5 _ _ _ _ _ h) (And.intro rfl (And.intro rfl (And.intro rfl (And.intro rfl trivial))))
def g_Arrays_fill_55_5 (F : Nat) : Nat → Int32 → Int32 → Int32 → mx_D → Option (mx_D) := it (fun k5 => b_Arrays_fill_55_5 F k5) (fun _ _ _ _ => none)
set_option maxRecDepth 100000 in
set_option maxHeartbeats 4000000 in
theorem t_Arrays_fill_55_5 (X : ev_X) (F : Nat) (d : Nat) (E : mx_E)  : ∀ (n : Nat) (l1 : Int32) (l2 : Int32) (l3 : Int32) (D : mx_D) (v : mx_D), g_Arrays_fill_55_5 F n l1 l2 l3 D = some v → ev X d 333 (5, [some (.ref 55), some (.int l1), some (.int l2), some (.int l3)], [], D, E) (qR none v E) := by
  intro n
  induction n with
  | zero => intro l1 l2 l3 D v h; cases h
  | succ n ih => intro l1 l2 l3 D v h; exact tb_Arrays_fill_55_5 X F d E (g_Arrays_fill_55_5 F n) ih l1 l2 l3 D v h
def g_Arrays_fill_55 (F : Nat) (a1 : Int32) (D : mx_D) : Option (mx_D) := (g_Arrays_fill_55_5 F F a1 (nI 0) (nI 4) D)
set_option maxRecDepth 100000 in
set_option maxHeartbeats 4000000 in
theorem t_Arrays_fill_55 (X : ev_X) (F : Nat) (d : Nat) (E : mx_E) (a1 : Int32) (D : mx_D) (v : mx_D) (h : g_Arrays_fill_55 F a1 D = some v) : ev X d 333 (0, [some (.ref 55), some (.int a1), none, none], [], D, E) (qR none v E) := by
  have hq : kq_m 333 = some kq_q333 := rfl
  unfold g_Arrays_fill_55 at h
  refine gv_n hq 5 (S' := (5, [some (.ref 55), some (.int a1), some (.int (nI 0)), some (.int (nI 4))], [], D, E)) rfl ?_
  exact gv_w (t_Arrays_fill_55_5 X F d E F _ _ _ _ _ h) (And.intro rfl (And.intro rfl (And.intro rfl (And.intro rfl trivial))))
def b_Arrays_fill_56_5 (F : Nat) (k5 : Int32 → Int32 → Int32 → mx_D → Option (mx_D)) (l1 : Int32) (l2 : Int32) (l3 : Int32) (D : mx_D) : Option (mx_D) := (if l3 ≤ l2 then (some D) else (rk 4 l2 (k5 l1 (l2 + (nI 1)) l3 (sD D 56 (l2).toNatClampNeg l1))))
set_option maxRecDepth 100000 in
set_option maxHeartbeats 4000000 in
theorem tb_Arrays_fill_56_5 (X : ev_X) (F : Nat) (d : Nat) (E : mx_E) (k5 : Int32 → Int32 → Int32 → mx_D → Option (mx_D)) (K5 : ∀ (l1 : Int32) (l2 : Int32) (l3 : Int32) (D : mx_D) (v : mx_D), k5 l1 l2 l3 D = some v → ev X d 333 (5, [some (.ref 56), some (.int l1), some (.int l2), some (.int l3)], [], D, E) (qR none v E)) (l1 : Int32) (l2 : Int32) (l3 : Int32) (D : mx_D) (v : mx_D) (h : b_Arrays_fill_56_5 F k5 l1 l2 l3 D = some v) : ev X d 333 (5, [some (.ref 56), some (.int l1), some (.int l2), some (.int l3)], [], D, E) (qR none v E) := by
  have hq : kq_m 333 = some kq_q333 := rfl
  unfold b_Arrays_fill_56_5 at h
  refine gv_n hq 2 (S' := (7, [some (.ref 56), some (.int l1), some (.int l2), some (.int l3)], [.int l3, .int l2], D, E)) rfl ?_
  refine gv_b hq rfl h 20 10 rfl rfl rfl (fun h => ?_) (fun h => ?_)
  · cases h
    exact ev_ret hq rfl rfl ⟨rfl, rfl, rfl⟩
  · refine gv_n hq 3 (S' := (13, [some (.ref 56), some (.int l1), some (.int l2), some (.int l3)], [.int l1, .int l2, .ref 56], D, E)) rfl ?_
    refine gv_is hq rfl rfl h 14 rfl (fun h => ?_)
    refine gv_n hq 2 (S' := (5, [some (.ref 56), some (.int l1), some (.int (l2 + (nI 1))), some (.int l3)], [], (sD D 56 (l2).toNatClampNeg l1), E)) rfl ?_
    exact gv_w (K5 _ _ _ _ _ h) (And.intro rfl (And.intro rfl (And.intro rfl (And.intro rfl trivial))))
def g_Arrays_fill_56_5 (F : Nat) : Nat → Int32 → Int32 → Int32 → mx_D → Option (mx_D) := it (fun k5 => b_Arrays_fill_56_5 F k5) (fun _ _ _ _ => none)
set_option maxRecDepth 100000 in
set_option maxHeartbeats 4000000 in
theorem t_Arrays_fill_56_5 (X : ev_X) (F : Nat) (d : Nat) (E : mx_E)  : ∀ (n : Nat) (l1 : Int32) (l2 : Int32) (l3 : Int32) (D : mx_D) (v : mx_D), g_Arrays_fill_56_5 F n l1 l2 l3 D = some v → ev X d 333 (5, [some (.ref 56), some (.int l1), some (.int l2), some (.int l3)], [], D, E) (qR none v E) := by
  intro n
  induction n with
  | zero => intro l1 l2 l3 D v h; cases h
  | succ n ih => intro l1 l2 l3 D v h; exact tb_Arrays_fill_56_5 X F d E (g_Arrays_fill_56_5 F n) ih l1 l2 l3 D v h
def g_Arrays_fill_56 (F : Nat) (a1 : Int32) (D : mx_D) : Option (mx_D) := (g_Arrays_fill_56_5 F F a1 (nI 0) (nI 4) D)
set_option maxRecDepth 100000 in
set_option maxHeartbeats 4000000 in
theorem t_Arrays_fill_56 (X : ev_X) (F : Nat) (d : Nat) (E : mx_E) (a1 : Int32) (D : mx_D) (v : mx_D) (h : g_Arrays_fill_56 F a1 D = some v) : ev X d 333 (0, [some (.ref 56), some (.int a1), none, none], [], D, E) (qR none v E) := by
  have hq : kq_m 333 = some kq_q333 := rfl
  unfold g_Arrays_fill_56 at h
  refine gv_n hq 5 (S' := (5, [some (.ref 56), some (.int a1), some (.int (nI 0)), some (.int (nI 4))], [], D, E)) rfl ?_
  exact gv_w (t_Arrays_fill_56_5 X F d E F _ _ _ _ _ h) (And.intro rfl (And.intro rfl (And.intro rfl (And.intro rfl trivial))))
def b_Church_sitters_4 (F : Nat) (D : mx_D) (k4 : Int32 → Int32 → Option (Int32)) (l1 : Int32) (l2 : Int32) : Option (Int32) := (if (D 24 6) ≤ l2 then (some l1) else (Option.bind (g_Church_isSeated D l2) (fun r1 => (if r1 = 0 then (k4 l1 (l2 + (nI 1))) else (k4 (l1 ||| ((nI 1) <<< (l2 &&& 31))) (l2 + (nI 1)))))))
set_option maxRecDepth 100000 in
set_option maxHeartbeats 4000000 in
theorem tb_Church_sitters_4 (X : ev_X) (F : Nat) (d : Nat) (hd : 2 ≤ d + 1) (D : mx_D) (E : mx_E) (k4 : Int32 → Int32 → Option (Int32)) (K4 : ∀ (l1 : Int32) (l2 : Int32) (v : Int32), k4 l1 l2 = some v → ev X (d + 1) 22 (4, [some (.ref 19), some (.int l1), some (.int l2)], [], D, E) (qR (some (.int v)) D E)) (l1 : Int32) (l2 : Int32) (v : Int32) (h : b_Church_sitters_4 F D k4 l1 l2 = some v) : ev X (d + 1) 22 (4, [some (.ref 19), some (.int l1), some (.int l2)], [], D, E) (qR (some (.int v)) D E) := by
  have hq : kq_m 22 = some kq_q22 := rfl
  unfold b_Church_sitters_4 at h
  refine gv_n hq 4 (S' := (12, [some (.ref 19), some (.int l1), some (.int l2)], [.int (D 24 6), .int l2], D, E)) rfl ?_
  refine gv_b hq rfl h 35 15 rfl rfl rfl (fun h => ?_) (fun h => ?_)
  · refine gv_n hq 1 (S' := (36, [some (.ref 19), some (.int l1), some (.int l2)], [.int l1], D, E)) rfl ?_
    cases h
    exact ev_ret hq rfl rfl ⟨rfl, rfl, rfl⟩
  · refine gv_n hq 2 (S' := (17, [some (.ref 19), some (.int l1), some (.int l2)], [.int l2, .ref 19], D, E)) rfl ?_
    obtain ⟨r1, h1, h⟩ := Option.bind_eq_some_iff.mp h
    refine gv_d hq rfl rfl rfl rfl rfl (gv_dd (by omega) (t_Church_isSeated X (d - 1) (by omega) D E _ _ h1)) (S' := (20, [some (.ref 19), some (.int l1), some (.int l2)], [.int r1], D, E)) rfl ?_
    refine gv_b hq rfl h 29 23 rfl rfl rfl (fun h => ?_) (fun h => ?_)
    · refine gv_n hq 2 (S' := (4, [some (.ref 19), some (.int l1), some (.int (l2 + (nI 1)))], [], D, E)) rfl ?_
      exact gv_w (K4 _ _ _ h) (And.intro rfl (And.intro rfl (And.intro rfl trivial)))
    · refine gv_n hq 8 (S' := (4, [some (.ref 19), some (.int (l1 ||| ((nI 1) <<< (l2 &&& 31)))), some (.int (l2 + (nI 1)))], [], D, E)) rfl ?_
      exact gv_w (K4 _ _ _ h) (And.intro rfl (And.intro rfl (And.intro rfl trivial)))
def g_Church_sitters_4 (F : Nat) (D : mx_D) : Nat → Int32 → Int32 → Option (Int32) := it (fun k4 => b_Church_sitters_4 F D k4) (fun _ _ => none)
set_option maxRecDepth 100000 in
set_option maxHeartbeats 4000000 in
theorem t_Church_sitters_4 (X : ev_X) (F : Nat) (d : Nat) (hd : 2 ≤ d + 1) (D : mx_D) (E : mx_E)  : ∀ (n : Nat) (l1 : Int32) (l2 : Int32) (v : Int32), g_Church_sitters_4 F D n l1 l2 = some v → ev X (d + 1) 22 (4, [some (.ref 19), some (.int l1), some (.int l2)], [], D, E) (qR (some (.int v)) D E) := by
  intro n
  induction n with
  | zero => intro l1 l2 v h; cases h
  | succ n ih => intro l1 l2 v h; exact tb_Church_sitters_4 X F d hd D E (g_Church_sitters_4 F D n) ih l1 l2 v h
def g_Church_sitters (F : Nat) (D : mx_D) : Option (Int32) := (g_Church_sitters_4 F D F (nI 0) (nI 0))
set_option maxRecDepth 100000 in
set_option maxHeartbeats 4000000 in
theorem t_Church_sitters (X : ev_X) (F : Nat) (d : Nat) (hd : 2 ≤ d + 1) (D : mx_D) (E : mx_E) (v : Int32) (h : g_Church_sitters F D = some v) : ev X (d + 1) 22 (0, [some (.ref 19), none, none], [], D, E) (qR (some (.int v)) D E) := by
  have hq : kq_m 22 = some kq_q22 := rfl
  unfold g_Church_sitters at h
  refine gv_n hq 4 (S' := (4, [some (.ref 19), some (.int (nI 0)), some (.int (nI 0))], [], D, E)) rfl ?_
  exact gv_w (t_Church_sitters_4 X F d hd D E F _ _ _ h) (And.intro rfl (And.intro rfl (And.intro rfl trivial)))
def b_HatSearch_hand_248 (F : Nat) (kS : Int32 → Int32 → mx_D → Option (mx_D)) (l3 : Int32) (l4 : Int32) (l5 : Int32) (D : mx_D) : Option (mx_D) := (rk 4 l3 (rk 4 l3 (some (sD (sD D 55 (l3).toNatClampNeg l4) 56 (l3).toNatClampNeg l5))))
set_option maxRecDepth 100000 in
set_option maxHeartbeats 4000000 in
theorem tb_HatSearch_hand_248 (X : ev_X) (F : Nat) (d : Nat) (hd : 2 ≤ d + 1) (E : mx_E) (kS : Int32 → Int32 → mx_D → Option (mx_D)) (KS : ∀ (a1 : Int32) (a2 : Int32) (D : mx_D) (v : mx_D), kS a1 a2 D = some v → ev X d 39 (0, [some (.ref 51), some (.int a1), some (.int a2), none, none, none, none, none], [], D, E) (qR none v E)) (l3 : Int32) (l4 : Int32) (l5 : Int32) (D : mx_D) (v : mx_D) (h : b_HatSearch_hand_248 F kS l3 l4 l5 D = some v) : ev X (d + 1) 39 (248, [some (.ref 51), none, none, some (.int l3), some (.int l4), some (.int l5), none, none], [], D, E) (qR none v E) := by
  have hq : kq_m 39 = some kq_q39 := rfl
  unfold b_HatSearch_hand_248 at h
  refine gv_n hq 4 (S' := (255, [some (.ref 51), none, none, some (.int l3), some (.int l4), some (.int l5), none, none], [.int l4, .int l3, .ref 55], D, E)) rfl ?_
  refine gv_is hq rfl rfl h 256 rfl (fun h => ?_)
  refine gv_n hq 4 (S' := (263, [some (.ref 51), none, none, some (.int l3), some (.int l4), some (.int l5), none, none], [.int l5, .int l3, .ref 56], (sD D 55 (l3).toNatClampNeg l4), E)) rfl ?_
  refine gv_is hq rfl rfl h 264 rfl (fun h => ?_)
  cases h
  exact ev_ret hq rfl rfl ⟨rfl, rfl, rfl⟩
def b_HatSearch_hand_139 (F : Nat) (kS : Int32 → Int32 → mx_D → Option (mx_D)) (k113 : Int32 → Int32 → Int32 → Int32 → Int32 → Int32 → mx_D → Option (mx_D)) (l1 : Int32) (l2 : Int32) (l3 : Int32) (l4 : Int32) (l5 : Int32) (l6 : Int32) (D : mx_D) : Option (mx_D) := (if ((l2 >>> (l6 &&& 31)) &&& (nI 1)) = 0 then (k113 l1 l2 l3 l4 l5 (l6 + (nI 1)) D) else (rk 8 l1 (rk 8 l6 (rk 4 l3 (rk 4 l3 (rk 4 l3 (rk 4 l3 (if ((sD (sD D 55 (l3).toNatClampNeg (imn l4 ((D 54 (l1).toNatClampNeg) + (D 31 (l6).toNatClampNeg)))) 56 (l3).toNatClampNeg (imx l5 ((D 54 (l1).toNatClampNeg) + (D 31 (l6).toNatClampNeg)))) 19 2) < (((sD (sD D 55 (l3).toNatClampNeg (imn l4 ((D 54 (l1).toNatClampNeg) + (D 31 (l6).toNatClampNeg)))) 56 (l3).toNatClampNeg (imx l5 ((D 54 (l1).toNatClampNeg) + (D 31 (l6).toNatClampNeg)))) 56 (l3).toNatClampNeg) - ((sD (sD D 55 (l3).toNatClampNeg (imn l4 ((D 54 (l1).toNatClampNeg) + (D 31 (l6).toNatClampNeg)))) 56 (l3).toNatClampNeg (imx l5 ((D 54 (l1).toNatClampNeg) + (D 31 (l6).toNatClampNeg)))) 55 (l3).toNatClampNeg)) then (k113 l1 l2 l3 l4 l5 (l6 + (nI 1)) (sD (sD D 55 (l3).toNatClampNeg (imn l4 ((D 54 (l1).toNatClampNeg) + (D 31 (l6).toNatClampNeg)))) 56 (l3).toNatClampNeg (imx l5 ((D 54 (l1).toNatClampNeg) + (D 31 (l6).toNatClampNeg))))) else (rk 8 l1 (Option.bind (kS (l1 + (nI 1)) (l2 &&& (((nI 1) <<< (l6 &&& 31)) ^^^ (-1 : Int32))) (sD (sD (sD D 55 (l3).toNatClampNeg (imn l4 ((D 54 (l1).toNatClampNeg) + (D 31 (l6).toNatClampNeg)))) 56 (l3).toNatClampNeg (imx l5 ((D 54 (l1).toNatClampNeg) + (D 31 (l6).toNatClampNeg)))) 53 (l1).toNatClampNeg l6)) (fun r3 => (k113 l1 l2 l3 l4 l5 (l6 + (nI 1)) r3))))))))))))
set_option maxRecDepth 100000 in
set_option maxHeartbeats 4000000 in
theorem tb_HatSearch_hand_139 (X : ev_X) (F : Nat) (d : Nat) (hd : 2 ≤ d + 1) (E : mx_E) (kS : Int32 → Int32 → mx_D → Option (mx_D)) (k113 : Int32 → Int32 → Int32 → Int32 → Int32 → Int32 → mx_D → Option (mx_D)) (KS : ∀ (a1 : Int32) (a2 : Int32) (D : mx_D) (v : mx_D), kS a1 a2 D = some v → ev X d 39 (0, [some (.ref 51), some (.int a1), some (.int a2), none, none, none, none, none], [], D, E) (qR none v E)) (K113 : ∀ (l1 : Int32) (l2 : Int32) (l3 : Int32) (l4 : Int32) (l5 : Int32) (l6 : Int32) (D : mx_D) (v : mx_D), k113 l1 l2 l3 l4 l5 l6 D = some v → ev X (d + 1) 39 (113, [some (.ref 51), some (.int l1), some (.int l2), some (.int l3), some (.int l4), some (.int l5), some (.int l6), none], [], D, E) (qR none v E)) (l1 : Int32) (l2 : Int32) (l3 : Int32) (l4 : Int32) (l5 : Int32) (l6 : Int32) (D : mx_D) (v : mx_D) (h : b_HatSearch_hand_139 F kS k113 l1 l2 l3 l4 l5 l6 D = some v) : ev X (d + 1) 39 (139, [some (.ref 51), some (.int l1), some (.int l2), some (.int l3), some (.int l4), some (.int l5), some (.int l6), none], [], D, E) (qR none v E) := by
  have hq : kq_m 39 = some kq_q39 := rfl
  unfold b_HatSearch_hand_139 at h
  refine gv_n hq 5 (S' := (145, [some (.ref 51), some (.int l1), some (.int l2), some (.int l3), some (.int l4), some (.int l5), some (.int l6), none], [.int ((l2 >>> (l6 &&& 31)) &&& (nI 1))], D, E)) rfl ?_
  refine gv_b hq rfl h 148 151 rfl rfl rfl (fun h => ?_) (fun h => ?_)
  · refine gv_n hq 3 (S' := (113, [some (.ref 51), some (.int l1), some (.int l2), some (.int l3), some (.int l4), some (.int l5), some (.int (l6 + (nI 1))), none], [], D, E)) rfl ?_
    exact gv_w (K113 _ _ _ _ _ _ _ _ h) (And.intro rfl (And.intro rfl (And.intro rfl (And.intro rfl (And.intro rfl (And.intro rfl (And.intro rfl trivial)))))))
  · refine gv_n hq 3 (S' := (156, [some (.ref 51), some (.int l1), some (.int l2), some (.int l3), some (.int l4), some (.int l5), some (.int l6), none], [.int l1, .ref 54], D, E)) rfl ?_
    refine gv_ia hq rfl rfl rfl h 157 rfl (fun h => ?_)
    refine gv_n hq 4 (S' := (166, [some (.ref 51), some (.int l1), some (.int l2), some (.int l3), some (.int l4), some (.int l5), some (.int l6), none], [.int l6, .ref 31, .int (D 54 (l1).toNatClampNeg)], D, E)) rfl ?_
    refine gv_ia hq rfl rfl rfl h 167 rfl (fun h => ?_)
    refine gv_n hq 8 (S' := (182, [some (.ref 51), some (.int l1), some (.int l2), some (.int l3), some (.int l4), some (.int l5), some (.int l6), some (.int ((D 54 (l1).toNatClampNeg) + (D 31 (l6).toNatClampNeg)))], [.int (imn l4 ((D 54 (l1).toNatClampNeg) + (D 31 (l6).toNatClampNeg))), .int l3, .ref 55], D, E)) rfl ?_
    refine gv_is hq rfl rfl h 183 rfl (fun h => ?_)
    refine gv_n hq 6 (S' := (195, [some (.ref 51), some (.int l1), some (.int l2), some (.int l3), some (.int l4), some (.int l5), some (.int l6), some (.int ((D 54 (l1).toNatClampNeg) + (D 31 (l6).toNatClampNeg)))], [.int (imx l5 ((D 54 (l1).toNatClampNeg) + (D 31 (l6).toNatClampNeg))), .int l3, .ref 56], (sD D 55 (l3).toNatClampNeg (imn l4 ((D 54 (l1).toNatClampNeg) + (D 31 (l6).toNatClampNeg)))), E)) rfl ?_
    refine gv_is hq rfl rfl h 196 rfl (fun h => ?_)
    refine gv_n hq 3 (S' := (201, [some (.ref 51), some (.int l1), some (.int l2), some (.int l3), some (.int l4), some (.int l5), some (.int l6), some (.int ((D 54 (l1).toNatClampNeg) + (D 31 (l6).toNatClampNeg)))], [.int l3, .ref 56], (sD (sD D 55 (l3).toNatClampNeg (imn l4 ((D 54 (l1).toNatClampNeg) + (D 31 (l6).toNatClampNeg)))) 56 (l3).toNatClampNeg (imx l5 ((D 54 (l1).toNatClampNeg) + (D 31 (l6).toNatClampNeg)))), E)) rfl ?_
    refine gv_ia hq rfl rfl rfl h 202 rfl (fun h => ?_)
    refine gv_n hq 3 (S' := (207, [some (.ref 51), some (.int l1), some (.int l2), some (.int l3), some (.int l4), some (.int l5), some (.int l6), some (.int ((D 54 (l1).toNatClampNeg) + (D 31 (l6).toNatClampNeg)))], [.int l3, .ref 55, .int ((sD (sD D 55 (l3).toNatClampNeg (imn l4 ((D 54 (l1).toNatClampNeg) + (D 31 (l6).toNatClampNeg)))) 56 (l3).toNatClampNeg (imx l5 ((D 54 (l1).toNatClampNeg) + (D 31 (l6).toNatClampNeg)))) 56 (l3).toNatClampNeg)], (sD (sD D 55 (l3).toNatClampNeg (imn l4 ((D 54 (l1).toNatClampNeg) + (D 31 (l6).toNatClampNeg)))) 56 (l3).toNatClampNeg (imx l5 ((D 54 (l1).toNatClampNeg) + (D 31 (l6).toNatClampNeg)))), E)) rfl ?_
    refine gv_ia hq rfl rfl rfl h 208 rfl (fun h => ?_)
    refine gv_n hq 4 (S' := (216, [some (.ref 51), some (.int l1), some (.int l2), some (.int l3), some (.int l4), some (.int l5), some (.int l6), some (.int ((D 54 (l1).toNatClampNeg) + (D 31 (l6).toNatClampNeg)))], [.int ((sD (sD D 55 (l3).toNatClampNeg (imn l4 ((D 54 (l1).toNatClampNeg) + (D 31 (l6).toNatClampNeg)))) 56 (l3).toNatClampNeg (imx l5 ((D 54 (l1).toNatClampNeg) + (D 31 (l6).toNatClampNeg)))) 19 2), .int (((sD (sD D 55 (l3).toNatClampNeg (imn l4 ((D 54 (l1).toNatClampNeg) + (D 31 (l6).toNatClampNeg)))) 56 (l3).toNatClampNeg (imx l5 ((D 54 (l1).toNatClampNeg) + (D 31 (l6).toNatClampNeg)))) 56 (l3).toNatClampNeg) - ((sD (sD D 55 (l3).toNatClampNeg (imn l4 ((D 54 (l1).toNatClampNeg) + (D 31 (l6).toNatClampNeg)))) 56 (l3).toNatClampNeg (imx l5 ((D 54 (l1).toNatClampNeg) + (D 31 (l6).toNatClampNeg)))) 55 (l3).toNatClampNeg))], (sD (sD D 55 (l3).toNatClampNeg (imn l4 ((D 54 (l1).toNatClampNeg) + (D 31 (l6).toNatClampNeg)))) 56 (l3).toNatClampNeg (imx l5 ((D 54 (l1).toNatClampNeg) + (D 31 (l6).toNatClampNeg)))), E)) rfl ?_
    refine gv_b hq rfl h 242 219 rfl rfl rfl (fun h => ?_) (fun h => ?_)
    · refine gv_n hq 2 (S' := (113, [some (.ref 51), some (.int l1), some (.int l2), some (.int l3), some (.int l4), some (.int l5), some (.int (l6 + (nI 1))), some (.int ((D 54 (l1).toNatClampNeg) + (D 31 (l6).toNatClampNeg)))], [], (sD (sD D 55 (l3).toNatClampNeg (imn l4 ((D 54 (l1).toNatClampNeg) + (D 31 (l6).toNatClampNeg)))) 56 (l3).toNatClampNeg (imx l5 ((D 54 (l1).toNatClampNeg) + (D 31 (l6).toNatClampNeg)))), E)) rfl ?_
      exact gv_w (K113 _ _ _ _ _ _ _ _ h) (And.intro rfl (And.intro rfl (And.intro rfl (And.intro rfl (And.intro rfl (And.intro rfl (And.intro rfl trivial)))))))
    · refine gv_n hq 4 (S' := (226, [some (.ref 51), some (.int l1), some (.int l2), some (.int l3), some (.int l4), some (.int l5), some (.int l6), some (.int ((D 54 (l1).toNatClampNeg) + (D 31 (l6).toNatClampNeg)))], [.int l6, .int l1, .ref 53], (sD (sD D 55 (l3).toNatClampNeg (imn l4 ((D 54 (l1).toNatClampNeg) + (D 31 (l6).toNatClampNeg)))) 56 (l3).toNatClampNeg (imx l5 ((D 54 (l1).toNatClampNeg) + (D 31 (l6).toNatClampNeg)))), E)) rfl ?_
      refine gv_is hq rfl rfl h 227 rfl (fun h => ?_)
      refine gv_n hq 11 (S' := (239, [some (.ref 51), some (.int l1), some (.int l2), some (.int l3), some (.int l4), some (.int l5), some (.int l6), some (.int ((D 54 (l1).toNatClampNeg) + (D 31 (l6).toNatClampNeg)))], [.int (l2 &&& (((nI 1) <<< (l6 &&& 31)) ^^^ (-1 : Int32))), .int (l1 + (nI 1)), .ref 51], (sD (sD (sD D 55 (l3).toNatClampNeg (imn l4 ((D 54 (l1).toNatClampNeg) + (D 31 (l6).toNatClampNeg)))) 56 (l3).toNatClampNeg (imx l5 ((D 54 (l1).toNatClampNeg) + (D 31 (l6).toNatClampNeg)))) 53 (l1).toNatClampNeg l6), E)) rfl ?_
      obtain ⟨r3, h1, h⟩ := Option.bind_eq_some_iff.mp h
      refine gv_d hq rfl rfl rfl rfl rfl ((KS _ _ _ _ h1)) (S' := (242, [some (.ref 51), some (.int l1), some (.int l2), some (.int l3), some (.int l4), some (.int l5), some (.int l6), some (.int ((D 54 (l1).toNatClampNeg) + (D 31 (l6).toNatClampNeg)))], [], r3, E)) rfl ?_
      refine gv_n hq 2 (S' := (113, [some (.ref 51), some (.int l1), some (.int l2), some (.int l3), some (.int l4), some (.int l5), some (.int (l6 + (nI 1))), some (.int ((D 54 (l1).toNatClampNeg) + (D 31 (l6).toNatClampNeg)))], [], r3, E)) rfl ?_
      exact gv_w (K113 _ _ _ _ _ _ _ _ h) (And.intro rfl (And.intro rfl (And.intro rfl (And.intro rfl (And.intro rfl (And.intro rfl (And.intro rfl trivial)))))))
def b_HatSearch_hand_113 (F : Nat) (kS : Int32 → Int32 → mx_D → Option (mx_D)) (k113 : Int32 → Int32 → Int32 → Int32 → Int32 → Int32 → mx_D → Option (mx_D)) (l1 : Int32) (l2 : Int32) (l3 : Int32) (l4 : Int32) (l5 : Int32) (l6 : Int32) (D : mx_D) : Option (mx_D) := (if (D 19 10) ≤ l6 then (b_HatSearch_hand_248 F kS l3 l4 l5 D) else (if (D 51 7) = 0 then (if (D 51 1) = 0 then (b_HatSearch_hand_139 F kS k113 l1 l2 l3 l4 l5 l6 D) else (b_HatSearch_hand_248 F kS l3 l4 l5 D)) else (b_HatSearch_hand_139 F kS k113 l1 l2 l3 l4 l5 l6 D)))
set_option maxRecDepth 100000 in
set_option maxHeartbeats 4000000 in
theorem tb_HatSearch_hand_113 (X : ev_X) (F : Nat) (d : Nat) (hd : 2 ≤ d + 1) (E : mx_E) (kS : Int32 → Int32 → mx_D → Option (mx_D)) (k113 : Int32 → Int32 → Int32 → Int32 → Int32 → Int32 → mx_D → Option (mx_D)) (KS : ∀ (a1 : Int32) (a2 : Int32) (D : mx_D) (v : mx_D), kS a1 a2 D = some v → ev X d 39 (0, [some (.ref 51), some (.int a1), some (.int a2), none, none, none, none, none], [], D, E) (qR none v E)) (K113 : ∀ (l1 : Int32) (l2 : Int32) (l3 : Int32) (l4 : Int32) (l5 : Int32) (l6 : Int32) (D : mx_D) (v : mx_D), k113 l1 l2 l3 l4 l5 l6 D = some v → ev X (d + 1) 39 (113, [some (.ref 51), some (.int l1), some (.int l2), some (.int l3), some (.int l4), some (.int l5), some (.int l6), none], [], D, E) (qR none v E)) (l1 : Int32) (l2 : Int32) (l3 : Int32) (l4 : Int32) (l5 : Int32) (l6 : Int32) (D : mx_D) (v : mx_D) (h : b_HatSearch_hand_113 F kS k113 l1 l2 l3 l4 l5 l6 D = some v) : ev X (d + 1) 39 (113, [some (.ref 51), some (.int l1), some (.int l2), some (.int l3), some (.int l4), some (.int l5), some (.int l6), none], [], D, E) (qR none v E) := by
  have hq : kq_m 39 = some kq_q39 := rfl
  unfold b_HatSearch_hand_113 at h
  refine gv_n hq 4 (S' := (122, [some (.ref 51), some (.int l1), some (.int l2), some (.int l3), some (.int l4), some (.int l5), some (.int l6), none], [.int (D 19 10), .int l6], D, E)) rfl ?_
  refine gv_b hq rfl h 248 125 rfl rfl rfl (fun h => ?_) (fun h => ?_)
  · exact gv_w (tb_HatSearch_hand_248 X F d hd E kS KS _ _ _ _ _ h) (And.intro rfl (And.intro rfl (And.intro rfl (And.intro rfl trivial))))
  · refine gv_n hq 2 (S' := (129, [some (.ref 51), some (.int l1), some (.int l2), some (.int l3), some (.int l4), some (.int l5), some (.int l6), none], [.int (D 51 7)], D, E)) rfl ?_
    refine gv_b hq rfl h 132 139 rfl rfl rfl (fun h => ?_) (fun h => ?_)
    · refine gv_n hq 2 (S' := (136, [some (.ref 51), some (.int l1), some (.int l2), some (.int l3), some (.int l4), some (.int l5), some (.int l6), none], [.int (D 51 1)], D, E)) rfl ?_
      refine gv_b hq rfl h 139 248 rfl rfl rfl (fun h => ?_) (fun h => ?_)
      · exact gv_w (tb_HatSearch_hand_139 X F d hd E kS k113 KS K113 _ _ _ _ _ _ _ _ h) (And.intro rfl (And.intro rfl (And.intro rfl (And.intro rfl (And.intro rfl (And.intro rfl (And.intro rfl trivial)))))))
      · exact gv_w (tb_HatSearch_hand_248 X F d hd E kS KS _ _ _ _ _ h) (And.intro rfl (And.intro rfl (And.intro rfl (And.intro rfl trivial))))
    · exact gv_w (tb_HatSearch_hand_139 X F d hd E kS k113 KS K113 _ _ _ _ _ _ _ _ h) (And.intro rfl (And.intro rfl (And.intro rfl (And.intro rfl (And.intro rfl (And.intro rfl (And.intro rfl trivial)))))))
def g_HatSearch_hand_113 (F : Nat) (kS : Int32 → Int32 → mx_D → Option (mx_D)) : Nat → Int32 → Int32 → Int32 → Int32 → Int32 → Int32 → mx_D → Option (mx_D) := it (fun k113 => b_HatSearch_hand_113 F kS k113) (fun _ _ _ _ _ _ _ => none)
set_option maxRecDepth 100000 in
set_option maxHeartbeats 4000000 in
theorem t_HatSearch_hand_113 (X : ev_X) (F : Nat) (d : Nat) (hd : 2 ≤ d + 1) (E : mx_E) (kS : Int32 → Int32 → mx_D → Option (mx_D)) (KS : ∀ (a1 : Int32) (a2 : Int32) (D : mx_D) (v : mx_D), kS a1 a2 D = some v → ev X d 39 (0, [some (.ref 51), some (.int a1), some (.int a2), none, none, none, none, none], [], D, E) (qR none v E)) : ∀ (n : Nat) (l1 : Int32) (l2 : Int32) (l3 : Int32) (l4 : Int32) (l5 : Int32) (l6 : Int32) (D : mx_D) (v : mx_D), g_HatSearch_hand_113 F kS n l1 l2 l3 l4 l5 l6 D = some v → ev X (d + 1) 39 (113, [some (.ref 51), some (.int l1), some (.int l2), some (.int l3), some (.int l4), some (.int l5), some (.int l6), none], [], D, E) (qR none v E) := by
  intro n
  induction n with
  | zero => intro l1 l2 l3 l4 l5 l6 D v h; cases h
  | succ n ih => intro l1 l2 l3 l4 l5 l6 D v h; exact tb_HatSearch_hand_113 X F d hd E kS (g_HatSearch_hand_113 F kS n) KS ih l1 l2 l3 l4 l5 l6 D v h
def b_HatSearch_hand_93 (F : Nat) (kS : Int32 → Int32 → mx_D → Option (mx_D)) (l1 : Int32) (l2 : Int32) (s0 : Int32) (D : mx_D) : Option (mx_D) := (rk 4 s0 (rk 4 s0 (g_HatSearch_hand_113 F kS F l1 l2 s0 (D 55 (s0).toNatClampNeg) (D 56 (s0).toNatClampNeg) (nI 0) D)))
set_option maxRecDepth 100000 in
set_option maxHeartbeats 4000000 in
theorem tb_HatSearch_hand_93 (X : ev_X) (F : Nat) (d : Nat) (hd : 2 ≤ d + 1) (E : mx_E) (kS : Int32 → Int32 → mx_D → Option (mx_D)) (KS : ∀ (a1 : Int32) (a2 : Int32) (D : mx_D) (v : mx_D), kS a1 a2 D = some v → ev X d 39 (0, [some (.ref 51), some (.int a1), some (.int a2), none, none, none, none, none], [], D, E) (qR none v E)) (l1 : Int32) (l2 : Int32) (s0 : Int32) (D : mx_D) (v : mx_D) (h : b_HatSearch_hand_93 F kS l1 l2 s0 D = some v) : ev X (d + 1) 39 (93, [some (.ref 51), some (.int l1), some (.int l2), none, none, none, none, none], [.int s0], D, E) (qR none v E) := by
  have hq : kq_m 39 = some kq_q39 := rfl
  unfold b_HatSearch_hand_93 at h
  refine gv_n hq 4 (S' := (99, [some (.ref 51), some (.int l1), some (.int l2), some (.int s0), none, none, none, none], [.int s0, .ref 55], D, E)) rfl ?_
  refine gv_ia hq rfl rfl rfl h 100 rfl (fun h => ?_)
  refine gv_n hq 4 (S' := (107, [some (.ref 51), some (.int l1), some (.int l2), some (.int s0), some (.int (D 55 (s0).toNatClampNeg)), none, none, none], [.int s0, .ref 56], D, E)) rfl ?_
  refine gv_ia hq rfl rfl rfl h 108 rfl (fun h => ?_)
  refine gv_n hq 3 (S' := (113, [some (.ref 51), some (.int l1), some (.int l2), some (.int s0), some (.int (D 55 (s0).toNatClampNeg)), some (.int (D 56 (s0).toNatClampNeg)), some (.int (nI 0)), none], [], D, E)) rfl ?_
  exact gv_w (t_HatSearch_hand_113 X F d hd E kS KS F _ _ _ _ _ _ _ _ h) (And.intro rfl (And.intro rfl (And.intro rfl (And.intro rfl (And.intro rfl (And.intro rfl (And.intro rfl trivial)))))))
def b_HatSearch_hand (F : Nat) (kS : Int32 → Int32 → mx_D → Option (mx_D)) (a1 : Int32) (a2 : Int32) (D : mx_D) : Option (mx_D) := (if a1 < (D 24 6) then (Option.bind (g_Church_isSeated D a1) (fun r1 => (if r1 = 0 then (Option.bind (kS (a1 + (nI 1)) a2 D) (fun r2 => (some r2))) else (if (D 19 3) = 0 then (rk 8 a1 (b_HatSearch_hand_93 F kS a1 a2 (D 28 (a1).toNatClampNeg) D)) else (b_HatSearch_hand_93 F kS a1 a2 (nI 0) D))))) else (if (D 51 1) = 0 then (some (sD (cD D 53 52 0 0 8) 51 1 (((cD D 53 52 0 0 8) 51 1) + (nI 1)))) else (some (sD D 51 1 ((D 51 1) + (nI 1))))))
def g_HatSearch_hand (F : Nat) : Nat → Int32 → Int32 → mx_D → Option (mx_D) := it (fun kS => b_HatSearch_hand F kS) (fun _ _ _ => none)
set_option maxRecDepth 100000 in
set_option maxHeartbeats 4000000 in
theorem tb_HatSearch_hand (X : ev_X) (F : Nat) (d : Nat) (hd : 2 ≤ d + 1) (E : mx_E) (kS : Int32 → Int32 → mx_D → Option (mx_D)) (KS : ∀ (a1 : Int32) (a2 : Int32) (D : mx_D) (v : mx_D), kS a1 a2 D = some v → ev X d 39 (0, [some (.ref 51), some (.int a1), some (.int a2), none, none, none, none, none], [], D, E) (qR none v E)) (a1 : Int32) (a2 : Int32) (D : mx_D) (v : mx_D) (h : b_HatSearch_hand F kS a1 a2 D = some v) : ev X (d + 1) 39 (0, [some (.ref 51), some (.int a1), some (.int a2), none, none, none, none, none], [], D, E) (qR none v E) := by
  have hq : kq_m 39 = some kq_q39 := rfl
  unfold b_HatSearch_hand at h
  refine gv_n hq 5 (S' := (11, [some (.ref 51), some (.int a1), some (.int a2), none, none, none, none, none], [.int (D 24 6), .int a1], D, E)) rfl ?_
  refine gv_b hq rfl h 47 14 rfl rfl rfl (fun h => ?_) (fun h => ?_)
  · refine gv_n hq 3 (S' := (52, [some (.ref 51), some (.int a1), some (.int a2), none, none, none, none, none], [.int a1, .ref 19], D, E)) rfl ?_
    obtain ⟨r1, h1, h⟩ := Option.bind_eq_some_iff.mp h
    refine gv_d hq rfl rfl rfl rfl rfl (gv_dd (by omega) (t_Church_isSeated X (d - 1) (by omega) D E _ _ h1)) (S' := (55, [some (.ref 51), some (.int a1), some (.int a2), none, none, none, none, none], [.int r1], D, E)) rfl ?_
    refine gv_b hq rfl h 58 67 rfl rfl rfl (fun h => ?_) (fun h => ?_)
    · refine gv_n hq 5 (S' := (63, [some (.ref 51), some (.int a1), some (.int a2), none, none, none, none, none], [.int a2, .int (a1 + (nI 1)), .ref 51], D, E)) rfl ?_
      obtain ⟨r2, h1, h⟩ := Option.bind_eq_some_iff.mp h
      refine gv_d hq rfl rfl rfl rfl rfl ((KS _ _ _ _ h1)) (S' := (66, [some (.ref 51), some (.int a1), some (.int a2), none, none, none, none, none], [], r2, E)) rfl ?_
      cases h
      exact ev_ret hq rfl rfl ⟨rfl, rfl, rfl⟩
    · refine gv_n hq 3 (S' := (74, [some (.ref 51), some (.int a1), some (.int a2), none, none, none, none, none], [.int (D 19 3)], D, E)) rfl ?_
      refine gv_b hq rfl h 81 77 rfl rfl rfl (fun h => ?_) (fun h => ?_)
      · refine gv_n hq 5 (S' := (92, [some (.ref 51), some (.int a1), some (.int a2), none, none, none, none, none], [.int a1, .ref 28], D, E)) rfl ?_
        refine gv_ia hq rfl rfl rfl h 93 rfl (fun h => ?_)
        exact gv_w (tb_HatSearch_hand_93 X F d hd E kS KS _ _ _ _ _ h) (And.intro rfl (And.intro rfl (And.intro rfl trivial)))
      · refine gv_n hq 2 (S' := (93, [some (.ref 51), some (.int a1), some (.int a2), none, none, none, none, none], [.int (nI 0)], D, E)) rfl ?_
        exact gv_w (tb_HatSearch_hand_93 X F d hd E kS KS _ _ _ _ _ h) (And.intro rfl (And.intro rfl (And.intro rfl trivial)))
  · refine gv_n hq 2 (S' := (18, [some (.ref 51), some (.int a1), some (.int a2), none, none, none, none, none], [.int (D 51 1)], D, E)) rfl ?_
    refine gv_b hq rfl h 21 36 rfl rfl rfl (fun h => ?_) (fun h => ?_)
    · refine gv_n hq 14 (S' := (46, [some (.ref 51), some (.int a1), some (.int a2), none, none, none, none, none], [], (sD (cD D 53 52 0 0 8) 51 1 (((cD D 53 52 0 0 8) 51 1) + (nI 1))), E)) rfl ?_
      cases h
      exact ev_ret hq rfl rfl ⟨rfl, rfl, rfl⟩
    · refine gv_n hq 6 (S' := (46, [some (.ref 51), some (.int a1), some (.int a2), none, none, none, none, none], [], (sD D 51 1 ((D 51 1) + (nI 1))), E)) rfl ?_
      cases h
      exact ev_ret hq rfl rfl ⟨rfl, rfl, rfl⟩
set_option maxRecDepth 100000 in
set_option maxHeartbeats 4000000 in
theorem t_HatSearch_hand (X : ev_X) (F : Nat) (E : mx_E) : ∀ (n d : Nat), 2 + n ≤ d + 1 → ∀ (a1 : Int32) (a2 : Int32) (D : mx_D) (v : mx_D), g_HatSearch_hand F n a1 a2 D = some v → ev X (d + 1) 39 (0, [some (.ref 51), some (.int a1), some (.int a2), none, none, none, none, none], [], D, E) (qR none v E) := by
  intro n
  induction n with
  | zero => intro d hd a1 a2 D v h; cases h
  | succ n ih =>
    intro d hd a1 a2 D v h
    obtain ⟨d, rfl⟩ : ∃ e, d = e + 1 := ⟨d - 1, by omega⟩
    exact tb_HatSearch_hand X F (d + 1) (by omega) E (g_HatSearch_hand F n) (ih d (by omega)) a1 a2 D v h
def b_HatSearch_find_56 (F : Nat) (D : mx_D) : Option (mx_D) := (Option.bind (g_Arrays_fill_53 F (-1 : Int32) D) (fun r1 => (Option.bind (g_Arrays_fill_55 F (nI 10000) r1) (fun r2 => (Option.bind (g_Arrays_fill_56 F (-10000 : Int32) r2) (fun r3 => (Option.bind (g_Church_sitters F r3) (fun r4 => (if (r3 19 10) < (g_Integer_bitCount r4) then (some r3) else (Option.bind (g_HatSearch_hand F 20 (nI 0) (((nI 1) <<< ((r3 19 10) &&& 31)) - (nI 1)) r3) (fun r5 => (some r5))))))))))))
set_option maxRecDepth 100000 in
set_option maxHeartbeats 4000000 in
theorem tb_HatSearch_find_56 (X : ev_X) (F : Nat) (d : Nat) (hd : 103 ≤ d + 1) (E : mx_E)  (D : mx_D) (v : mx_D) (h : b_HatSearch_find_56 F D = some v) : ev X (d + 1) 38 (56, [some (.ref 51), none, none, none], [], D, E) (qR none v E) := by
  have hq : kq_m 38 = some kq_q38 := rfl
  unfold b_HatSearch_find_56 at h
  refine gv_n hq 3 (S' := (61, [some (.ref 51), none, none, none], [.int (-1 : Int32), .ref 53], D, E)) rfl ?_
  obtain ⟨r1, h1, h⟩ := Option.bind_eq_some_iff.mp h
  refine gv_d hq rfl rfl rfl rfl rfl ((t_Arrays_fill_53 X F d E _ _ _ h1)) (S' := (64, [some (.ref 51), none, none, none], [], r1, E)) rfl ?_
  refine gv_n hq 3 (S' := (71, [some (.ref 51), none, none, none], [.int (nI 10000), .ref 55], r1, E)) rfl ?_
  obtain ⟨r2, h1, h⟩ := Option.bind_eq_some_iff.mp h
  refine gv_d hq rfl rfl rfl rfl rfl ((t_Arrays_fill_55 X F d E _ _ _ h1)) (S' := (74, [some (.ref 51), none, none, none], [], r2, E)) rfl ?_
  refine gv_n hq 3 (S' := (81, [some (.ref 51), none, none, none], [.int (-10000 : Int32), .ref 56], r2, E)) rfl ?_
  obtain ⟨r3, h1, h⟩ := Option.bind_eq_some_iff.mp h
  refine gv_d hq rfl rfl rfl rfl rfl ((t_Arrays_fill_56 X F d E _ _ _ h1)) (S' := (84, [some (.ref 51), none, none, none], [], r3, E)) rfl ?_
  refine gv_n hq 2 (S' := (88, [some (.ref 51), none, none, none], [.ref 19], r3, E)) rfl ?_
  obtain ⟨r4, h1, h⟩ := Option.bind_eq_some_iff.mp h
  refine gv_d hq rfl rfl rfl rfl rfl (gv_dd (by omega) (t_Church_sitters X F (d - 1) (by omega) r3 E _ h1)) (S' := (91, [some (.ref 51), none, none, none], [.int r4], r3, E)) rfl ?_
  refine gv_d hq rfl rfl rfl rfl rfl ((t_Integer_bitCount X d r3 E _ _ rfl)) (S' := (94, [some (.ref 51), none, none, none], [.int (g_Integer_bitCount r4)], r3, E)) rfl ?_
  refine gv_n hq 3 (S' := (101, [some (.ref 51), none, none, none], [.int (r3 19 10), .int (g_Integer_bitCount r4)], r3, E)) rfl ?_
  refine gv_b hq rfl h 120 104 rfl rfl rfl (fun h => ?_) (fun h => ?_)
  · cases h
    exact ev_ret hq rfl rfl ⟨rfl, rfl, rfl⟩
  · refine gv_n hq 9 (S' := (117, [some (.ref 51), none, none, none], [.int (((nI 1) <<< ((r3 19 10) &&& 31)) - (nI 1)), .int (nI 0), .ref 51], r3, E)) rfl ?_
    obtain ⟨r5, h1, h⟩ := Option.bind_eq_some_iff.mp h
    refine gv_d hq rfl rfl rfl rfl rfl (gv_dd (by omega) (t_HatSearch_hand X F E 20 (d - 1) (by omega) _ _ _ _ h1)) (S' := (120, [some (.ref 51), none, none, none], [], r5, E)) rfl ?_
    cases h
    exact ev_ret hq rfl rfl ⟨rfl, rfl, rfl⟩
def b_HatSearch_find_12 (F : Nat) (k12 : Int32 → Int32 → mx_D → Option (mx_D)) (l1 : Int32) (l3 : Int32) (D : mx_D) : Option (mx_D) := (if (D 24 6) ≤ l3 then (b_HatSearch_find_56 F D) else (Option.bind (g_Church_highOf F D l3 l1) (fun r6 => (Option.bind (g_Church_hatHighOf D l3) (fun r7 => (rk 8 l3 (k12 l1 (l3 + (nI 1)) (sD D 54 (l3).toNatClampNeg (r6 - r7)))))))))
set_option maxRecDepth 100000 in
set_option maxHeartbeats 4000000 in
theorem tb_HatSearch_find_12 (X : ev_X) (F : Nat) (d : Nat) (hd : 103 ≤ d + 1) (E : mx_E) (k12 : Int32 → Int32 → mx_D → Option (mx_D)) (K12 : ∀ (l1 : Int32) (l3 : Int32) (D : mx_D) (v : mx_D), k12 l1 l3 D = some v → ev X (d + 1) 38 (12, [some (.ref 51), some (.int l1), none, some (.int l3)], [], D, E) (qR none v E)) (l1 : Int32) (l3 : Int32) (D : mx_D) (v : mx_D) (h : b_HatSearch_find_12 F k12 l1 l3 D = some v) : ev X (d + 1) 38 (12, [some (.ref 51), some (.int l1), none, some (.int l3)], [], D, E) (qR none v E) := by
  have hq : kq_m 38 = some kq_q38 := rfl
  unfold b_HatSearch_find_12 at h
  refine gv_n hq 5 (S' := (23, [some (.ref 51), some (.int l1), none, some (.int l3)], [.int (D 24 6), .int l3], D, E)) rfl ?_
  refine gv_b hq rfl h 56 26 rfl rfl rfl (fun h => ?_) (fun h => ?_)
  · exact gv_w (tb_HatSearch_find_56 X F d hd E _ _ h) (And.intro rfl trivial)
  · refine gv_n hq 7 (S' := (37, [some (.ref 51), some (.int l1), none, some (.int l3)], [.int l1, .int l3, .ref 19, .int l3, .ref 54], D, E)) rfl ?_
    obtain ⟨r6, h1, h⟩ := Option.bind_eq_some_iff.mp h
    refine gv_d hq rfl rfl rfl rfl rfl (gv_dd (by omega) (t_Church_highOf X F (d - 1) (by omega) D E _ _ _ h1)) (S' := (40, [some (.ref 51), some (.int l1), none, some (.int l3)], [.int r6, .int l3, .ref 54], D, E)) rfl ?_
    refine gv_n hq 3 (S' := (45, [some (.ref 51), some (.int l1), none, some (.int l3)], [.int l3, .ref 19, .int r6, .int l3, .ref 54], D, E)) rfl ?_
    obtain ⟨r7, h1, h⟩ := Option.bind_eq_some_iff.mp h
    refine gv_d hq rfl rfl rfl rfl rfl (gv_dd (by omega) (t_Church_hatHighOf X (d - 1) (by omega) D E _ _ h1)) (S' := (48, [some (.ref 51), some (.int l1), none, some (.int l3)], [.int r7, .int r6, .int l3, .ref 54], D, E)) rfl ?_
    refine gv_n hq 1 (S' := (49, [some (.ref 51), some (.int l1), none, some (.int l3)], [.int (r6 - r7), .int l3, .ref 54], D, E)) rfl ?_
    refine gv_is hq rfl rfl h 50 rfl (fun h => ?_)
    refine gv_n hq 2 (S' := (12, [some (.ref 51), some (.int l1), none, some (.int (l3 + (nI 1)))], [], (sD D 54 (l3).toNatClampNeg (r6 - r7)), E)) rfl ?_
    exact gv_w (K12 _ _ _ _ h) (And.intro rfl (And.intro rfl (And.intro rfl trivial)))
def g_HatSearch_find_12 (F : Nat) : Nat → Int32 → Int32 → mx_D → Option (mx_D) := it (fun k12 => b_HatSearch_find_12 F k12) (fun _ _ _ => none)
set_option maxRecDepth 100000 in
set_option maxHeartbeats 4000000 in
theorem t_HatSearch_find_12 (X : ev_X) (F : Nat) (d : Nat) (hd : 103 ≤ d + 1) (E : mx_E)  : ∀ (n : Nat) (l1 : Int32) (l3 : Int32) (D : mx_D) (v : mx_D), g_HatSearch_find_12 F n l1 l3 D = some v → ev X (d + 1) 38 (12, [some (.ref 51), some (.int l1), none, some (.int l3)], [], D, E) (qR none v E) := by
  intro n
  induction n with
  | zero => intro l1 l3 D v h; cases h
  | succ n ih => intro l1 l3 D v h; exact tb_HatSearch_find_12 X F d hd E (g_HatSearch_find_12 F n) ih l1 l3 D v h
def g_HatSearch_find (F : Nat) (a1 : Int32) (a2 : Int32) (D : mx_D) : Option (mx_D) := (zk a2 (g_HatSearch_find_12 F F a1 (nI 0) (sD (sD D 51 1 (nI 0)) 51 7 a2)))
set_option maxRecDepth 100000 in
set_option maxHeartbeats 4000000 in
theorem t_HatSearch_find (X : ev_X) (F : Nat) (d : Nat) (hd : 103 ≤ d + 1) (E : mx_E) (a1 : Int32) (a2 : Int32) (D : mx_D) (v : mx_D) (h : g_HatSearch_find F a1 a2 D = some v) : ev X (d + 1) 38 (0, [some (.ref 51), some (.int a1), some (.int a2), none], [], D, E) (qR none v E) := by
  have hq : kq_m 38 = some kq_q38 := rfl
  unfold g_HatSearch_find at h
  refine gv_n hq 5 (S' := (7, [some (.ref 51), some (.int a1), some (.int a2), none], [.int a2, .ref 51], (sD D 51 1 (nI 0)), E)) rfl ?_
  refine gv_zp hq rfl h (S' := (10, [some (.ref 51), some (.int a1), some (.int a2), none], [], (sD (sD D 51 1 (nI 0)) 51 7 a2), E)) rfl (fun h => ?_)
  refine gv_n hq 2 (S' := (12, [some (.ref 51), some (.int a1), some (.int a2), some (.int (nI 0))], [], (sD (sD D 51 1 (nI 0)) 51 7 a2), E)) rfl ?_
  exact gv_w (t_HatSearch_find_12 X F d hd E F _ _ _ _ h) (And.intro rfl (And.intro rfl (And.intro rfl trivial)))
def g_X_hats (F : Nat) (a1 : Int32) (D : mx_D) : Option (Int32 × mx_D) := (if (g_X_canAsk D a1) = 0 then (some ((-2 : Int32), D)) else (Option.bind (g_HatSearch_find F a1 (nI 1) D) (fun r1 => (some ((r1 51 1), r1)))))
set_option maxRecDepth 100000 in
set_option maxHeartbeats 4000000 in
theorem t_X_hats (X : ev_X) (F : Nat) (d : Nat) (hd : 104 ≤ d + 1) (E : mx_E) (a1 : Int32) (D : mx_D) (v : Int32 × mx_D) (h : g_X_hats F a1 D = some v) : ev X (d + 1) 144 (0, [some (.ref 0), some (.int a1)], [], D, E) (qR (some (.int v.1)) v.2 E) := by
  have hq : kq_m 144 = some kq_q144 := rfl
  unfold g_X_hats at h
  refine gv_n hq 2 (S' := (2, [some (.ref 0), some (.int a1)], [.int a1, .ref 0], D, E)) rfl ?_
  refine gv_d hq rfl rfl rfl rfl rfl (gv_dd (by omega) (t_X_canAsk X (d - 1) (by omega) D E _ _ rfl)) (S' := (5, [some (.ref 0), some (.int a1)], [.int (g_X_canAsk D a1)], D, E)) rfl ?_
  refine gv_b hq rfl h 8 11 rfl rfl rfl (fun h => ?_) (fun h => ?_)
  · refine gv_n hq 1 (S' := (10, [some (.ref 0), some (.int a1)], [.int (-2 : Int32)], D, E)) rfl ?_
    cases h
    exact ev_ret hq rfl rfl ⟨rfl, rfl, rfl⟩
  · refine gv_n hq 4 (S' := (17, [some (.ref 0), some (.int a1)], [.int (nI 1), .int a1, .ref 51], D, E)) rfl ?_
    obtain ⟨r1, h1, h⟩ := Option.bind_eq_some_iff.mp h
    refine gv_d hq rfl rfl rfl rfl rfl (gv_dd (by omega) (t_HatSearch_find X F (d - 1) (by omega) E _ _ _ _ h1)) (S' := (20, [some (.ref 0), some (.int a1)], [], r1, E)) rfl ?_
    refine gv_n hq 3 (S' := (27, [some (.ref 0), some (.int a1)], [.int (r1 51 1)], r1, E)) rfl ?_
    cases h
    exact ev_ret hq rfl rfl ⟨rfl, rfl, rfl⟩
def b_M_nextSitter_4 (F : Nat) (D : mx_D) (k4 : Int32 → Option (Int32)) (l2 : Int32) : Option (Int32) := (if (D 117 4) ≤ l2 then (some l2) else (Option.bind (g_M_sits D l2) (fun r1 => (if r1 = 0 then (k4 (l2 + (nI 1))) else (some l2)))))
set_option maxRecDepth 100000 in
set_option maxHeartbeats 4000000 in
theorem tb_M_nextSitter_4 (X : ev_X) (F : Nat) (d : Nat) (hd : 2 ≤ d + 1) (D : mx_D) (E : mx_E) (k4 : Int32 → Option (Int32)) (K4 : ∀ (l2 : Int32) (v : Int32), k4 l2 = some v → ev X (d + 1) 278 (4, [some (.ref 116), none, some (.int l2)], [], D, E) (qR (some (.int v)) D E)) (l2 : Int32) (v : Int32) (h : b_M_nextSitter_4 F D k4 l2 = some v) : ev X (d + 1) 278 (4, [some (.ref 116), none, some (.int l2)], [], D, E) (qR (some (.int v)) D E) := by
  have hq : kq_m 278 = some kq_q278 := rfl
  unfold b_M_nextSitter_4 at h
  refine gv_n hq 5 (S' := (11, [some (.ref 116), none, some (.int l2)], [.int (D 117 4), .int l2], D, E)) rfl ?_
  refine gv_b hq rfl h 28 14 rfl rfl rfl (fun h => ?_) (fun h => ?_)
  · refine gv_n hq 1 (S' := (29, [some (.ref 116), none, some (.int l2)], [.int l2], D, E)) rfl ?_
    cases h
    exact ev_ret hq rfl rfl ⟨rfl, rfl, rfl⟩
  · refine gv_n hq 2 (S' := (16, [some (.ref 116), none, some (.int l2)], [.int l2, .ref 116], D, E)) rfl ?_
    obtain ⟨r1, h1, h⟩ := Option.bind_eq_some_iff.mp h
    refine gv_d hq rfl rfl rfl rfl rfl (gv_dd (by omega) (t_M_sits X (d - 1) (by omega) D E _ _ h1)) (S' := (19, [some (.ref 116), none, some (.int l2)], [.int r1], D, E)) rfl ?_
    refine gv_b hq rfl h 22 28 rfl rfl rfl (fun h => ?_) (fun h => ?_)
    · refine gv_n hq 2 (S' := (4, [some (.ref 116), none, some (.int (l2 + (nI 1)))], [], D, E)) rfl ?_
      exact gv_w (K4 _ _ h) (And.intro rfl (And.intro rfl trivial))
    · refine gv_n hq 1 (S' := (29, [some (.ref 116), none, some (.int l2)], [.int l2], D, E)) rfl ?_
      cases h
      exact ev_ret hq rfl rfl ⟨rfl, rfl, rfl⟩
def g_M_nextSitter_4 (F : Nat) (D : mx_D) : Nat → Int32 → Option (Int32) := it (fun k4 => b_M_nextSitter_4 F D k4) (fun _ => none)
set_option maxRecDepth 100000 in
set_option maxHeartbeats 4000000 in
theorem t_M_nextSitter_4 (X : ev_X) (F : Nat) (d : Nat) (hd : 2 ≤ d + 1) (D : mx_D) (E : mx_E)  : ∀ (n : Nat) (l2 : Int32) (v : Int32), g_M_nextSitter_4 F D n l2 = some v → ev X (d + 1) 278 (4, [some (.ref 116), none, some (.int l2)], [], D, E) (qR (some (.int v)) D E) := by
  intro n
  induction n with
  | zero => intro l2 v h; cases h
  | succ n ih => intro l2 v h; exact tb_M_nextSitter_4 X F d hd D E (g_M_nextSitter_4 F D n) ih l2 v h
def g_M_nextSitter (F : Nat) (D : mx_D) (a1 : Int32) : Option (Int32) := (g_M_nextSitter_4 F D F (a1 + (nI 1)))
set_option maxRecDepth 100000 in
set_option maxHeartbeats 4000000 in
theorem t_M_nextSitter (X : ev_X) (F : Nat) (d : Nat) (hd : 2 ≤ d + 1) (D : mx_D) (E : mx_E) (a1 : Int32) (v : Int32) (h : g_M_nextSitter F D a1 = some v) : ev X (d + 1) 278 (0, [some (.ref 116), some (.int a1), none], [], D, E) (qR (some (.int v)) D E) := by
  have hq : kq_m 278 = some kq_q278 := rfl
  unfold g_M_nextSitter at h
  refine gv_n hq 4 (S' := (4, [some (.ref 116), some (.int a1), some (.int (a1 + (nI 1)))], [], D, E)) rfl ?_
  exact gv_w (t_M_nextSitter_4 X F d hd D E F _ _ h) (And.intro rfl (And.intro rfl trivial))
def b_M_metHats_18 (F : Nat) (k18 : Int32 → mx_D → Option (mx_D)) (l2 : Int32) (D : mx_D) : Option (mx_D) := (if (D 117 4) ≤ l2 then (some (sD D 116 30 ((D 116 30) + (nI 1)))) else (Option.bind (g_M_of D l2 (nI 5)) (fun r2 => (rk 8 l2 (k18 (l2 + (nI 1)) (sD D 132 (l2).toNatClampNeg r2))))))
set_option maxRecDepth 100000 in
set_option maxHeartbeats 4000000 in
theorem tb_M_metHats_18 (X : ev_X) (F : Nat) (d : Nat) (hd : 6 ≤ d + 1) (E : mx_E) (k18 : Int32 → mx_D → Option (mx_D)) (K18 : ∀ (l2 : Int32) (D : mx_D) (v : mx_D), k18 l2 D = some v → ev X (d + 1) 279 (18, [some (.ref 116), none, some (.int l2)], [], D, E) (qR none v E)) (l2 : Int32) (D : mx_D) (v : mx_D) (h : b_M_metHats_18 F k18 l2 D = some v) : ev X (d + 1) 279 (18, [some (.ref 116), none, some (.int l2)], [], D, E) (qR none v E) := by
  have hq : kq_m 279 = some kq_q279 := rfl
  unfold b_M_metHats_18 at h
  refine gv_n hq 5 (S' := (25, [some (.ref 116), none, some (.int l2)], [.int (D 117 4), .int l2], D, E)) rfl ?_
  refine gv_b hq rfl h 46 28 rfl rfl rfl (fun h => ?_) (fun h => ?_)
  · refine gv_n hq 6 (S' := (56, [some (.ref 116), none, some (.int l2)], [], (sD D 116 30 ((D 116 30) + (nI 1))), E)) rfl ?_
    cases h
    exact ev_ret hq rfl rfl ⟨rfl, rfl, rfl⟩
  · refine gv_n hq 6 (S' := (36, [some (.ref 116), none, some (.int l2)], [.int (nI 5), .int l2, .ref 116, .int l2, .ref 132], D, E)) rfl ?_
    obtain ⟨r2, h1, h⟩ := Option.bind_eq_some_iff.mp h
    refine gv_d hq rfl rfl rfl rfl rfl ((t_M_of X d D E _ _ _ h1)) (S' := (39, [some (.ref 116), none, some (.int l2)], [.int r2, .int l2, .ref 132], D, E)) rfl ?_
    refine gv_is hq rfl rfl h 40 rfl (fun h => ?_)
    refine gv_n hq 2 (S' := (18, [some (.ref 116), none, some (.int (l2 + (nI 1)))], [], (sD D 132 (l2).toNatClampNeg r2), E)) rfl ?_
    exact gv_w (K18 _ _ _ h) (And.intro rfl (And.intro rfl trivial))
def g_M_metHats_18 (F : Nat) : Nat → Int32 → mx_D → Option (mx_D) := it (fun k18 => b_M_metHats_18 F k18) (fun _ _ => none)
set_option maxRecDepth 100000 in
set_option maxHeartbeats 4000000 in
theorem t_M_metHats_18 (X : ev_X) (F : Nat) (d : Nat) (hd : 6 ≤ d + 1) (E : mx_E)  : ∀ (n : Nat) (l2 : Int32) (D : mx_D) (v : mx_D), g_M_metHats_18 F n l2 D = some v → ev X (d + 1) 279 (18, [some (.ref 116), none, some (.int l2)], [], D, E) (qR none v E) := by
  intro n
  induction n with
  | zero => intro l2 D v h; cases h
  | succ n ih => intro l2 D v h; exact tb_M_metHats_18 X F d hd E (g_M_metHats_18 F n) ih l2 D v h
def g_M_metHats (F : Nat) (a1 : Int32) (D : mx_D) : Option (mx_D) := (Option.bind (g_M_isLevel F a1 D) (fun r1 => (if r1.1 = 0 then (some r1.2) else (if (r1.2 116 30) = 0 then (g_M_metHats_18 F F (nI 0) r1.2) else (some (sD r1.2 116 30 ((r1.2 116 30) + (nI 1))))))))
set_option maxRecDepth 100000 in
set_option maxHeartbeats 4000000 in
theorem t_M_metHats (X : ev_X) (F : Nat) (d : Nat) (hd : 6 ≤ d + 1) (E : mx_E) (a1 : Int32) (D : mx_D) (v : mx_D) (h : g_M_metHats F a1 D = some v) : ev X (d + 1) 279 (0, [some (.ref 116), some (.int a1), none], [], D, E) (qR none v E) := by
  have hq : kq_m 279 = some kq_q279 := rfl
  unfold g_M_metHats at h
  refine gv_n hq 2 (S' := (2, [some (.ref 116), some (.int a1), none], [.int a1, .ref 116], D, E)) rfl ?_
  obtain ⟨r1, h1, h⟩ := Option.bind_eq_some_iff.mp h
  refine gv_d hq rfl rfl rfl rfl rfl (gv_dd (by omega) (t_M_isLevel X F (d - 1) (by omega) E _ _ _ h1)) (S' := (5, [some (.ref 116), some (.int a1), none], [.int r1.1], r1.2, E)) rfl ?_
  refine gv_b hq rfl h 8 9 rfl rfl rfl (fun h => ?_) (fun h => ?_)
  · cases h
    exact ev_ret hq rfl rfl ⟨rfl, rfl, rfl⟩
  · refine gv_n hq 2 (S' := (13, [some (.ref 116), some (.int a1), none], [.int (r1.2 116 30)], r1.2, E)) rfl ?_
    refine gv_b hq rfl h 16 46 rfl rfl rfl (fun h => ?_) (fun h => ?_)
    · refine gv_n hq 2 (S' := (18, [some (.ref 116), some (.int a1), some (.int (nI 0))], [], r1.2, E)) rfl ?_
      exact gv_w (t_M_metHats_18 X F d hd E F _ _ _ h) (And.intro rfl (And.intro rfl trivial))
    · refine gv_n hq 6 (S' := (56, [some (.ref 116), some (.int a1), none], [], (sD r1.2 116 30 ((r1.2 116 30) + (nI 1))), E)) rfl ?_
      cases h
      exact ev_ret hq rfl rfl ⟨rfl, rfl, rfl⟩
def g_M_set (a1 : Int32) (a2 : Int32) (a3 : Int32) (D : mx_D) : Option (mx_D) := (rk 106 (((nI 40) + ((nI 6) * a1)) + a2) (some (sD D 117 ((((nI 40) + ((nI 6) * a1)) + a2)).toNatClampNeg a3)))
set_option maxRecDepth 100000 in
set_option maxHeartbeats 4000000 in
theorem t_M_set (X : ev_X) (d : Nat) (E : mx_E) (a1 : Int32) (a2 : Int32) (a3 : Int32) (D : mx_D) (v : mx_D) (h : g_M_set a1 a2 a3 D = some v) : ev X d 277 (0, [some (.ref 116), some (.int a1), some (.int a2), some (.int a3)], [], D, E) (qR none v E) := by
  have hq : kq_m 277 = some kq_q277 := rfl
  unfold g_M_set at h
  refine gv_n hq 10 (S' := (14, [some (.ref 116), some (.int a1), some (.int a2), some (.int a3)], [.int a3, .int (((nI 40) + ((nI 6) * a1)) + a2), .ref 117], D, E)) rfl ?_
  refine gv_is hq rfl rfl h 15 rfl (fun h => ?_)
  cases h
  exact ev_ret hq rfl rfl ⟨rfl, rfl, rfl⟩
def b_M_sitterAhead_4 (F : Nat) (D : mx_D) (k4 : Int32 → Option (Int32)) (l2 : Int32) : Option (Int32) := (if l2 < 0 then (some l2) else (Option.bind (g_M_sits D l2) (fun r1 => (if r1 = 0 then (k4 (l2 + (-1 : Int32))) else (some l2)))))
set_option maxRecDepth 100000 in
set_option maxHeartbeats 4000000 in
theorem tb_M_sitterAhead_4 (X : ev_X) (F : Nat) (d : Nat) (hd : 2 ≤ d + 1) (D : mx_D) (E : mx_E) (k4 : Int32 → Option (Int32)) (K4 : ∀ (l2 : Int32) (v : Int32), k4 l2 = some v → ev X (d + 1) 281 (4, [some (.ref 116), none, some (.int l2)], [], D, E) (qR (some (.int v)) D E)) (l2 : Int32) (v : Int32) (h : b_M_sitterAhead_4 F D k4 l2 = some v) : ev X (d + 1) 281 (4, [some (.ref 116), none, some (.int l2)], [], D, E) (qR (some (.int v)) D E) := by
  have hq : kq_m 281 = some kq_q281 := rfl
  unfold b_M_sitterAhead_4 at h
  refine gv_n hq 1 (S' := (5, [some (.ref 116), none, some (.int l2)], [.int l2], D, E)) rfl ?_
  refine gv_b hq rfl h 22 8 rfl rfl rfl (fun h => ?_) (fun h => ?_)
  · refine gv_n hq 1 (S' := (23, [some (.ref 116), none, some (.int l2)], [.int l2], D, E)) rfl ?_
    cases h
    exact ev_ret hq rfl rfl ⟨rfl, rfl, rfl⟩
  · refine gv_n hq 2 (S' := (10, [some (.ref 116), none, some (.int l2)], [.int l2, .ref 116], D, E)) rfl ?_
    obtain ⟨r1, h1, h⟩ := Option.bind_eq_some_iff.mp h
    refine gv_d hq rfl rfl rfl rfl rfl (gv_dd (by omega) (t_M_sits X (d - 1) (by omega) D E _ _ h1)) (S' := (13, [some (.ref 116), none, some (.int l2)], [.int r1], D, E)) rfl ?_
    refine gv_b hq rfl h 16 22 rfl rfl rfl (fun h => ?_) (fun h => ?_)
    · refine gv_n hq 2 (S' := (4, [some (.ref 116), none, some (.int (l2 + (-1 : Int32)))], [], D, E)) rfl ?_
      exact gv_w (K4 _ _ h) (And.intro rfl (And.intro rfl trivial))
    · refine gv_n hq 1 (S' := (23, [some (.ref 116), none, some (.int l2)], [.int l2], D, E)) rfl ?_
      cases h
      exact ev_ret hq rfl rfl ⟨rfl, rfl, rfl⟩
def g_M_sitterAhead_4 (F : Nat) (D : mx_D) : Nat → Int32 → Option (Int32) := it (fun k4 => b_M_sitterAhead_4 F D k4) (fun _ => none)
set_option maxRecDepth 100000 in
set_option maxHeartbeats 4000000 in
theorem t_M_sitterAhead_4 (X : ev_X) (F : Nat) (d : Nat) (hd : 2 ≤ d + 1) (D : mx_D) (E : mx_E)  : ∀ (n : Nat) (l2 : Int32) (v : Int32), g_M_sitterAhead_4 F D n l2 = some v → ev X (d + 1) 281 (4, [some (.ref 116), none, some (.int l2)], [], D, E) (qR (some (.int v)) D E) := by
  intro n
  induction n with
  | zero => intro l2 v h; cases h
  | succ n ih => intro l2 v h; exact tb_M_sitterAhead_4 X F d hd D E (g_M_sitterAhead_4 F D n) ih l2 v h
def g_M_sitterAhead (F : Nat) (D : mx_D) (a1 : Int32) : Option (Int32) := (g_M_sitterAhead_4 F D F (a1 - (nI 1)))
set_option maxRecDepth 100000 in
set_option maxHeartbeats 4000000 in
theorem t_M_sitterAhead (X : ev_X) (F : Nat) (d : Nat) (hd : 2 ≤ d + 1) (D : mx_D) (E : mx_E) (a1 : Int32) (v : Int32) (h : g_M_sitterAhead F D a1 = some v) : ev X (d + 1) 281 (0, [some (.ref 116), some (.int a1), none], [], D, E) (qR (some (.int v)) D E) := by
  have hq : kq_m 281 = some kq_q281 := rfl
  unfold g_M_sitterAhead at h
  refine gv_n hq 4 (S' := (4, [some (.ref 116), some (.int a1), some (.int (a1 - (nI 1)))], [], D, E)) rfl ?_
  exact gv_w (t_M_sitterAhead_4 X F d hd D E F _ _ h) (And.intro rfl (And.intro rfl trivial))
def b_M_isHatFree_2 (F : Nat) (D : mx_D) (k2 : Int32 → Int32 → Int32 → Option (Int32)) (l1 : Int32) (l2 : Int32) (l3 : Int32) : Option (Int32) := (if l2 ≤ l3 then (some (nI 1)) else (Option.bind (g_M_sits D l3) (fun r1 => (if r1 = 0 then (k2 l1 l2 (l3 + (nI 1))) else (Option.bind (g_M_of D l3 (nI 5)) (fun r2 => (if r2 = l1 then (some (nI 0)) else (k2 l1 l2 (l3 + (nI 1))))))))))
set_option maxRecDepth 100000 in
set_option maxHeartbeats 4000000 in
theorem tb_M_isHatFree_2 (X : ev_X) (F : Nat) (d : Nat) (hd : 2 ≤ d + 1) (D : mx_D) (E : mx_E) (k2 : Int32 → Int32 → Int32 → Option (Int32)) (K2 : ∀ (l1 : Int32) (l2 : Int32) (l3 : Int32) (v : Int32), k2 l1 l2 l3 = some v → ev X (d + 1) 280 (2, [some (.ref 116), some (.int l1), some (.int l2), some (.int l3)], [], D, E) (qR (some (.int v)) D E)) (l1 : Int32) (l2 : Int32) (l3 : Int32) (v : Int32) (h : b_M_isHatFree_2 F D k2 l1 l2 l3 = some v) : ev X (d + 1) 280 (2, [some (.ref 116), some (.int l1), some (.int l2), some (.int l3)], [], D, E) (qR (some (.int v)) D E) := by
  have hq : kq_m 280 = some kq_q280 := rfl
  unfold b_M_isHatFree_2 at h
  refine gv_n hq 2 (S' := (4, [some (.ref 116), some (.int l1), some (.int l2), some (.int l3)], [.int l2, .int l3], D, E)) rfl ?_
  refine gv_b hq rfl h 33 7 rfl rfl rfl (fun h => ?_) (fun h => ?_)
  · refine gv_n hq 1 (S' := (34, [some (.ref 116), some (.int l1), some (.int l2), some (.int l3)], [.int (nI 1)], D, E)) rfl ?_
    cases h
    exact ev_ret hq rfl rfl ⟨rfl, rfl, rfl⟩
  · refine gv_n hq 2 (S' := (9, [some (.ref 116), some (.int l1), some (.int l2), some (.int l3)], [.int l3, .ref 116], D, E)) rfl ?_
    obtain ⟨r1, h1, h⟩ := Option.bind_eq_some_iff.mp h
    refine gv_d hq rfl rfl rfl rfl rfl (gv_dd (by omega) (t_M_sits X (d - 1) (by omega) D E _ _ h1)) (S' := (12, [some (.ref 116), some (.int l1), some (.int l2), some (.int l3)], [.int r1], D, E)) rfl ?_
    refine gv_b hq rfl h 27 15 rfl rfl rfl (fun h => ?_) (fun h => ?_)
    · refine gv_n hq 2 (S' := (2, [some (.ref 116), some (.int l1), some (.int l2), some (.int (l3 + (nI 1)))], [], D, E)) rfl ?_
      exact gv_w (K2 _ _ _ _ h) (And.intro rfl (And.intro rfl (And.intro rfl (And.intro rfl trivial))))
    · refine gv_n hq 3 (S' := (18, [some (.ref 116), some (.int l1), some (.int l2), some (.int l3)], [.int (nI 5), .int l3, .ref 116], D, E)) rfl ?_
      obtain ⟨r2, h1, h⟩ := Option.bind_eq_some_iff.mp h
      refine gv_d hq rfl rfl rfl rfl rfl ((t_M_of X d D E _ _ _ h1)) (S' := (21, [some (.ref 116), some (.int l1), some (.int l2), some (.int l3)], [.int r2], D, E)) rfl ?_
      refine gv_n hq 1 (S' := (22, [some (.ref 116), some (.int l1), some (.int l2), some (.int l3)], [.int l1, .int r2], D, E)) rfl ?_
      refine gv_b hq rfl h 25 27 rfl rfl rfl (fun h => ?_) (fun h => ?_)
      · refine gv_n hq 1 (S' := (26, [some (.ref 116), some (.int l1), some (.int l2), some (.int l3)], [.int (nI 0)], D, E)) rfl ?_
        cases h
        exact ev_ret hq rfl rfl ⟨rfl, rfl, rfl⟩
      · refine gv_n hq 2 (S' := (2, [some (.ref 116), some (.int l1), some (.int l2), some (.int (l3 + (nI 1)))], [], D, E)) rfl ?_
        exact gv_w (K2 _ _ _ _ h) (And.intro rfl (And.intro rfl (And.intro rfl (And.intro rfl trivial))))
def g_M_isHatFree_2 (F : Nat) (D : mx_D) : Nat → Int32 → Int32 → Int32 → Option (Int32) := it (fun k2 => b_M_isHatFree_2 F D k2) (fun _ _ _ => none)
set_option maxRecDepth 100000 in
set_option maxHeartbeats 4000000 in
theorem t_M_isHatFree_2 (X : ev_X) (F : Nat) (d : Nat) (hd : 2 ≤ d + 1) (D : mx_D) (E : mx_E)  : ∀ (n : Nat) (l1 : Int32) (l2 : Int32) (l3 : Int32) (v : Int32), g_M_isHatFree_2 F D n l1 l2 l3 = some v → ev X (d + 1) 280 (2, [some (.ref 116), some (.int l1), some (.int l2), some (.int l3)], [], D, E) (qR (some (.int v)) D E) := by
  intro n
  induction n with
  | zero => intro l1 l2 l3 v h; cases h
  | succ n ih => intro l1 l2 l3 v h; exact tb_M_isHatFree_2 X F d hd D E (g_M_isHatFree_2 F D n) ih l1 l2 l3 v h
def g_M_isHatFree (F : Nat) (D : mx_D) (a1 : Int32) (a2 : Int32) : Option (Int32) := (g_M_isHatFree_2 F D F a1 a2 (nI 0))
set_option maxRecDepth 100000 in
set_option maxHeartbeats 4000000 in
theorem t_M_isHatFree (X : ev_X) (F : Nat) (d : Nat) (hd : 2 ≤ d + 1) (D : mx_D) (E : mx_E) (a1 : Int32) (a2 : Int32) (v : Int32) (h : g_M_isHatFree F D a1 a2 = some v) : ev X (d + 1) 280 (0, [some (.ref 116), some (.int a1), some (.int a2), none], [], D, E) (qR (some (.int v)) D E) := by
  have hq : kq_m 280 = some kq_q280 := rfl
  unfold g_M_isHatFree at h
  refine gv_n hq 2 (S' := (2, [some (.ref 116), some (.int a1), some (.int a2), some (.int (nI 0))], [], D, E)) rfl ?_
  exact gv_w (t_M_isHatFree_2 X F d hd D E F _ _ _ _ h) (And.intro rfl (And.intro rfl (And.intro rfl (And.intro rfl trivial))))
def b_M_handAll_178 (F : Nat) (k178 : Int32 → mx_D → Option (mx_D)) (l3 : Int32) (D : mx_D) : Option (mx_D) := (if (D 117 4) ≤ l3 then (some D) else (rk 8 l3 (Option.bind (g_M_set l3 (nI 5) (D 131 (l3).toNatClampNeg) D) (fun r3 => (k178 (l3 + (nI 1)) r3)))))
set_option maxRecDepth 100000 in
set_option maxHeartbeats 4000000 in
theorem tb_M_handAll_178 (X : ev_X) (F : Nat) (d : Nat) (hd : 7 ≤ d + 1) (E : mx_E) (k178 : Int32 → mx_D → Option (mx_D)) (K178 : ∀ (l3 : Int32) (D : mx_D) (v : mx_D), k178 l3 D = some v → ev X (d + 1) 276 (178, [some (.ref 116), none, none, some (.int l3), none], [], D, E) (qR none v E)) (l3 : Int32) (D : mx_D) (v : mx_D) (h : b_M_handAll_178 F k178 l3 D = some v) : ev X (d + 1) 276 (178, [some (.ref 116), none, none, some (.int l3), none], [], D, E) (qR none v E) := by
  have hq : kq_m 276 = some kq_q276 := rfl
  unfold b_M_handAll_178 at h
  refine gv_n hq 5 (S' := (185, [some (.ref 116), none, none, some (.int l3), none], [.int (D 117 4), .int l3], D, E)) rfl ?_
  refine gv_b hq rfl h 206 188 rfl rfl rfl (fun h => ?_) (fun h => ?_)
  · cases h
    exact ev_ret hq rfl rfl ⟨rfl, rfl, rfl⟩
  · refine gv_n hq 6 (S' := (196, [some (.ref 116), none, none, some (.int l3), none], [.int l3, .ref 131, .int (nI 5), .int l3, .ref 116], D, E)) rfl ?_
    refine gv_ia hq rfl rfl rfl h 197 rfl (fun h => ?_)
    obtain ⟨r3, h1, h⟩ := Option.bind_eq_some_iff.mp h
    refine gv_d hq rfl rfl rfl rfl rfl ((t_M_set X d E _ _ _ _ _ h1)) (S' := (200, [some (.ref 116), none, none, some (.int l3), none], [], r3, E)) rfl ?_
    refine gv_n hq 2 (S' := (178, [some (.ref 116), none, none, some (.int (l3 + (nI 1))), none], [], r3, E)) rfl ?_
    exact gv_w (K178 _ _ _ h) (And.intro rfl (And.intro rfl trivial))
def g_M_handAll_178 (F : Nat) : Nat → Int32 → mx_D → Option (mx_D) := it (fun k178 => b_M_handAll_178 F k178) (fun _ _ => none)
set_option maxRecDepth 100000 in
set_option maxHeartbeats 4000000 in
theorem t_M_handAll_178 (X : ev_X) (F : Nat) (d : Nat) (hd : 7 ≤ d + 1) (E : mx_E)  : ∀ (n : Nat) (l3 : Int32) (D : mx_D) (v : mx_D), g_M_handAll_178 F n l3 D = some v → ev X (d + 1) 276 (178, [some (.ref 116), none, none, some (.int l3), none], [], D, E) (qR none v E) := by
  intro n
  induction n with
  | zero => intro l3 D v h; cases h
  | succ n ih => intro l3 D v h; exact tb_M_handAll_178 X F d hd E (g_M_handAll_178 F n) ih l3 D v h
def b_M_handAll_111 (F : Nat) (k63 : Int32 → Int32 → mx_D → Option (mx_D)) (l1 : Int32) (l2 : Int32) (l3 : Int32) (D : mx_D) : Option (mx_D) := (if l3 = (D 117 5) then (Option.bind (g_M_set l2 (nI 5) (-1 : Int32) D) (fun r5 => (Option.bind (g_M_sitterAhead F r5 l2) (fun r6 => (k63 l1 r6 r5))))) else (Option.bind (g_M_set l2 (nI 5) l3 D) (fun r7 => (Option.bind (g_M_nextSitter F r7 l2) (fun r8 => (if r8 = (r7 117 4) then (Option.bind (g_M_metHats F l1 r7) (fun r9 => (k63 l1 l2 r9))) else (k63 l1 r8 r7)))))))
set_option maxRecDepth 100000 in
set_option maxHeartbeats 4000000 in
theorem tb_M_handAll_111 (X : ev_X) (F : Nat) (d : Nat) (hd : 7 ≤ d + 1) (E : mx_E) (k63 : Int32 → Int32 → mx_D → Option (mx_D)) (K63 : ∀ (l1 : Int32) (l2 : Int32) (D : mx_D) (v : mx_D), k63 l1 l2 D = some v → ev X (d + 1) 276 (63, [some (.ref 116), some (.int l1), some (.int l2), none, none], [], D, E) (qR none v E)) (l1 : Int32) (l2 : Int32) (l3 : Int32) (D : mx_D) (v : mx_D) (h : b_M_handAll_111 F k63 l1 l2 l3 D = some v) : ev X (d + 1) 276 (111, [some (.ref 116), some (.int l1), some (.int l2), some (.int l3), none], [], D, E) (qR none v E) := by
  have hq : kq_m 276 = some kq_q276 := rfl
  unfold b_M_handAll_111 at h
  refine gv_n hq 5 (S' := (118, [some (.ref 116), some (.int l1), some (.int l2), some (.int l3), none], [.int (D 117 5), .int l3], D, E)) rfl ?_
  refine gv_b hq rfl h 121 137 rfl rfl rfl (fun h => ?_) (fun h => ?_)
  · refine gv_n hq 4 (S' := (125, [some (.ref 116), some (.int l1), some (.int l2), some (.int l3), none], [.int (-1 : Int32), .int (nI 5), .int l2, .ref 116], D, E)) rfl ?_
    obtain ⟨r5, h1, h⟩ := Option.bind_eq_some_iff.mp h
    refine gv_d hq rfl rfl rfl rfl rfl ((t_M_set X d E _ _ _ _ _ h1)) (S' := (128, [some (.ref 116), some (.int l1), some (.int l2), some (.int l3), none], [], r5, E)) rfl ?_
    refine gv_n hq 2 (S' := (130, [some (.ref 116), some (.int l1), some (.int l2), some (.int l3), none], [.int l2, .ref 116], r5, E)) rfl ?_
    obtain ⟨r6, h1, h⟩ := Option.bind_eq_some_iff.mp h
    refine gv_d hq rfl rfl rfl rfl rfl (gv_dd (by omega) (t_M_sitterAhead X F (d - 1) (by omega) r5 E _ _ h1)) (S' := (133, [some (.ref 116), some (.int l1), some (.int l2), some (.int l3), none], [.int r6], r5, E)) rfl ?_
    refine gv_n hq 2 (S' := (63, [some (.ref 116), some (.int l1), some (.int r6), some (.int l3), none], [], r5, E)) rfl ?_
    exact gv_w (K63 _ _ _ _ h) (And.intro rfl (And.intro rfl (And.intro rfl trivial)))
  · refine gv_n hq 4 (S' := (141, [some (.ref 116), some (.int l1), some (.int l2), some (.int l3), none], [.int l3, .int (nI 5), .int l2, .ref 116], D, E)) rfl ?_
    obtain ⟨r7, h1, h⟩ := Option.bind_eq_some_iff.mp h
    refine gv_d hq rfl rfl rfl rfl rfl ((t_M_set X d E _ _ _ _ _ h1)) (S' := (144, [some (.ref 116), some (.int l1), some (.int l2), some (.int l3), none], [], r7, E)) rfl ?_
    refine gv_n hq 2 (S' := (146, [some (.ref 116), some (.int l1), some (.int l2), some (.int l3), none], [.int l2, .ref 116], r7, E)) rfl ?_
    obtain ⟨r8, h1, h⟩ := Option.bind_eq_some_iff.mp h
    refine gv_d hq rfl rfl rfl rfl rfl (gv_dd (by omega) (t_M_nextSitter X F (d - 1) (by omega) r7 E _ _ h1)) (S' := (149, [some (.ref 116), some (.int l1), some (.int l2), some (.int l3), none], [.int r8], r7, E)) rfl ?_
    refine gv_n hq 6 (S' := (159, [some (.ref 116), some (.int l1), some (.int l2), some (.int l3), some (.int r8)], [.int (r7 117 4), .int r8], r7, E)) rfl ?_
    refine gv_b hq rfl h 162 170 rfl rfl rfl (fun h => ?_) (fun h => ?_)
    · refine gv_n hq 2 (S' := (164, [some (.ref 116), some (.int l1), some (.int l2), some (.int l3), some (.int r8)], [.int l1, .ref 116], r7, E)) rfl ?_
      obtain ⟨r9, h1, h⟩ := Option.bind_eq_some_iff.mp h
      refine gv_d hq rfl rfl rfl rfl rfl (gv_dd (by omega) (t_M_metHats X F (d - 1) (by omega) E _ _ _ h1)) (S' := (167, [some (.ref 116), some (.int l1), some (.int l2), some (.int l3), some (.int r8)], [], r9, E)) rfl ?_
      refine gv_n hq 2 (S' := (63, [some (.ref 116), some (.int l1), some (.int l2), some (.int l3), some (.int r8)], [], r9, E)) rfl ?_
      exact gv_w (K63 _ _ _ _ h) (And.intro rfl (And.intro rfl (And.intro rfl trivial)))
    · refine gv_n hq 3 (S' := (63, [some (.ref 116), some (.int l1), some (.int r8), some (.int l3), some (.int r8)], [], r7, E)) rfl ?_
      exact gv_w (K63 _ _ _ _ h) (And.intro rfl (And.intro rfl (And.intro rfl trivial)))
def b_M_handAll_86 (F : Nat) (k63 : Int32 → Int32 → mx_D → Option (mx_D)) (k86 : Int32 → Int32 → Int32 → mx_D → Option (mx_D)) (l1 : Int32) (l2 : Int32) (l3 : Int32) (D : mx_D) : Option (mx_D) := (if (D 117 5) ≤ l3 then (b_M_handAll_111 F k63 l1 l2 l3 D) else (Option.bind (g_M_isHatFree F D l3 l2) (fun r10 => (if r10 = 0 then (k86 l1 l2 (l3 + (nI 1)) D) else (b_M_handAll_111 F k63 l1 l2 l3 D)))))
set_option maxRecDepth 100000 in
set_option maxHeartbeats 4000000 in
theorem tb_M_handAll_86 (X : ev_X) (F : Nat) (d : Nat) (hd : 7 ≤ d + 1) (E : mx_E) (k63 : Int32 → Int32 → mx_D → Option (mx_D)) (k86 : Int32 → Int32 → Int32 → mx_D → Option (mx_D)) (K63 : ∀ (l1 : Int32) (l2 : Int32) (D : mx_D) (v : mx_D), k63 l1 l2 D = some v → ev X (d + 1) 276 (63, [some (.ref 116), some (.int l1), some (.int l2), none, none], [], D, E) (qR none v E)) (K86 : ∀ (l1 : Int32) (l2 : Int32) (l3 : Int32) (D : mx_D) (v : mx_D), k86 l1 l2 l3 D = some v → ev X (d + 1) 276 (86, [some (.ref 116), some (.int l1), some (.int l2), some (.int l3), none], [], D, E) (qR none v E)) (l1 : Int32) (l2 : Int32) (l3 : Int32) (D : mx_D) (v : mx_D) (h : b_M_handAll_86 F k63 k86 l1 l2 l3 D = some v) : ev X (d + 1) 276 (86, [some (.ref 116), some (.int l1), some (.int l2), some (.int l3), none], [], D, E) (qR none v E) := by
  have hq : kq_m 276 = some kq_q276 := rfl
  unfold b_M_handAll_86 at h
  refine gv_n hq 5 (S' := (93, [some (.ref 116), some (.int l1), some (.int l2), some (.int l3), none], [.int (D 117 5), .int l3], D, E)) rfl ?_
  refine gv_b hq rfl h 111 96 rfl rfl rfl (fun h => ?_) (fun h => ?_)
  · exact gv_w (tb_M_handAll_111 X F d hd E k63 K63 _ _ _ _ _ h) (And.intro rfl (And.intro rfl (And.intro rfl (And.intro rfl trivial))))
  · refine gv_n hq 3 (S' := (99, [some (.ref 116), some (.int l1), some (.int l2), some (.int l3), none], [.int l2, .int l3, .ref 116], D, E)) rfl ?_
    obtain ⟨r10, h1, h⟩ := Option.bind_eq_some_iff.mp h
    refine gv_d hq rfl rfl rfl rfl rfl (gv_dd (by omega) (t_M_isHatFree X F (d - 1) (by omega) D E _ _ _ h1)) (S' := (102, [some (.ref 116), some (.int l1), some (.int l2), some (.int l3), none], [.int r10], D, E)) rfl ?_
    refine gv_b hq rfl h 105 111 rfl rfl rfl (fun h => ?_) (fun h => ?_)
    · refine gv_n hq 2 (S' := (86, [some (.ref 116), some (.int l1), some (.int l2), some (.int (l3 + (nI 1))), none], [], D, E)) rfl ?_
      exact gv_w (K86 _ _ _ _ _ h) (And.intro rfl (And.intro rfl (And.intro rfl (And.intro rfl trivial))))
    · exact gv_w (tb_M_handAll_111 X F d hd E k63 K63 _ _ _ _ _ h) (And.intro rfl (And.intro rfl (And.intro rfl (And.intro rfl trivial))))
def g_M_handAll_86 (F : Nat) (k63 : Int32 → Int32 → mx_D → Option (mx_D)) : Nat → Int32 → Int32 → Int32 → mx_D → Option (mx_D) := it (fun k86 => b_M_handAll_86 F k63 k86) (fun _ _ _ _ => none)
set_option maxRecDepth 100000 in
set_option maxHeartbeats 4000000 in
theorem t_M_handAll_86 (X : ev_X) (F : Nat) (d : Nat) (hd : 7 ≤ d + 1) (E : mx_E) (k63 : Int32 → Int32 → mx_D → Option (mx_D)) (K63 : ∀ (l1 : Int32) (l2 : Int32) (D : mx_D) (v : mx_D), k63 l1 l2 D = some v → ev X (d + 1) 276 (63, [some (.ref 116), some (.int l1), some (.int l2), none, none], [], D, E) (qR none v E)) : ∀ (n : Nat) (l1 : Int32) (l2 : Int32) (l3 : Int32) (D : mx_D) (v : mx_D), g_M_handAll_86 F k63 n l1 l2 l3 D = some v → ev X (d + 1) 276 (86, [some (.ref 116), some (.int l1), some (.int l2), some (.int l3), none], [], D, E) (qR none v E) := by
  intro n
  induction n with
  | zero => intro l1 l2 l3 D v h; cases h
  | succ n ih => intro l1 l2 l3 D v h; exact tb_M_handAll_86 X F d hd E k63 (g_M_handAll_86 F k63 n) K63 ih l1 l2 l3 D v h
def b_M_handAll_63 (F : Nat) (k63 : Int32 → Int32 → mx_D → Option (mx_D)) (l1 : Int32) (l2 : Int32) (D : mx_D) : Option (mx_D) := (if l2 < 0 then (g_M_handAll_178 F F (nI 0) D) else (if (D 117 4) ≤ l2 then (g_M_handAll_178 F F (nI 0) D) else (Option.bind (g_M_of D l2 (nI 5)) (fun r4 => (g_M_handAll_86 F k63 F l1 l2 (r4 + (nI 1)) D)))))
set_option maxRecDepth 100000 in
set_option maxHeartbeats 4000000 in
theorem tb_M_handAll_63 (X : ev_X) (F : Nat) (d : Nat) (hd : 7 ≤ d + 1) (E : mx_E) (k63 : Int32 → Int32 → mx_D → Option (mx_D)) (K63 : ∀ (l1 : Int32) (l2 : Int32) (D : mx_D) (v : mx_D), k63 l1 l2 D = some v → ev X (d + 1) 276 (63, [some (.ref 116), some (.int l1), some (.int l2), none, none], [], D, E) (qR none v E)) (l1 : Int32) (l2 : Int32) (D : mx_D) (v : mx_D) (h : b_M_handAll_63 F k63 l1 l2 D = some v) : ev X (d + 1) 276 (63, [some (.ref 116), some (.int l1), some (.int l2), none, none], [], D, E) (qR none v E) := by
  have hq : kq_m 276 = some kq_q276 := rfl
  unfold b_M_handAll_63 at h
  refine gv_n hq 1 (S' := (64, [some (.ref 116), some (.int l1), some (.int l2), none, none], [.int l2], D, E)) rfl ?_
  refine gv_b hq rfl h 176 67 rfl rfl rfl (fun h => ?_) (fun h => ?_)
  · refine gv_n hq 2 (S' := (178, [some (.ref 116), some (.int l1), some (.int l2), some (.int (nI 0)), none], [], D, E)) rfl ?_
    exact gv_w (t_M_handAll_178 X F d hd E F _ _ _ h) (And.intro rfl (And.intro rfl trivial))
  · refine gv_n hq 5 (S' := (74, [some (.ref 116), some (.int l1), some (.int l2), none, none], [.int (D 117 4), .int l2], D, E)) rfl ?_
    refine gv_b hq rfl h 176 77 rfl rfl rfl (fun h => ?_) (fun h => ?_)
    · refine gv_n hq 2 (S' := (178, [some (.ref 116), some (.int l1), some (.int l2), some (.int (nI 0)), none], [], D, E)) rfl ?_
      exact gv_w (t_M_handAll_178 X F d hd E F _ _ _ h) (And.intro rfl (And.intro rfl trivial))
    · refine gv_n hq 3 (S' := (80, [some (.ref 116), some (.int l1), some (.int l2), none, none], [.int (nI 5), .int l2, .ref 116], D, E)) rfl ?_
      obtain ⟨r4, h1, h⟩ := Option.bind_eq_some_iff.mp h
      refine gv_d hq rfl rfl rfl rfl rfl ((t_M_of X d D E _ _ _ h1)) (S' := (83, [some (.ref 116), some (.int l1), some (.int l2), none, none], [.int r4], D, E)) rfl ?_
      refine gv_n hq 3 (S' := (86, [some (.ref 116), some (.int l1), some (.int l2), some (.int (r4 + (nI 1))), none], [], D, E)) rfl ?_
      exact gv_w (t_M_handAll_86 X F d hd E k63 K63 F _ _ _ _ _ h) (And.intro rfl (And.intro rfl (And.intro rfl (And.intro rfl trivial))))
def g_M_handAll_63 (F : Nat) : Nat → Int32 → Int32 → mx_D → Option (mx_D) := it (fun k63 => b_M_handAll_63 F k63) (fun _ _ _ => none)
set_option maxRecDepth 100000 in
set_option maxHeartbeats 4000000 in
theorem t_M_handAll_63 (X : ev_X) (F : Nat) (d : Nat) (hd : 7 ≤ d + 1) (E : mx_E)  : ∀ (n : Nat) (l1 : Int32) (l2 : Int32) (D : mx_D) (v : mx_D), g_M_handAll_63 F n l1 l2 D = some v → ev X (d + 1) 276 (63, [some (.ref 116), some (.int l1), some (.int l2), none, none], [], D, E) (qR none v E) := by
  intro n
  induction n with
  | zero => intro l1 l2 D v h; cases h
  | succ n ih => intro l1 l2 D v h; exact tb_M_handAll_63 X F d hd E (g_M_handAll_63 F n) ih l1 l2 D v h
def b_M_handAll_42 (F : Nat) (l1 : Int32) (D : mx_D) : Option (mx_D) := (Option.bind (g_M_nextSitter F D (-1 : Int32)) (fun r1 => (if r1 = (D 117 4) then (Option.bind (g_M_metHats F l1 D) (fun r2 => (g_M_handAll_63 F F l1 r1 r2))) else (g_M_handAll_63 F F l1 r1 D))))
set_option maxRecDepth 100000 in
set_option maxHeartbeats 4000000 in
theorem tb_M_handAll_42 (X : ev_X) (F : Nat) (d : Nat) (hd : 7 ≤ d + 1) (E : mx_E)  (l1 : Int32) (D : mx_D) (v : mx_D) (h : b_M_handAll_42 F l1 D = some v) : ev X (d + 1) 276 (42, [some (.ref 116), some (.int l1), none, none, none], [], D, E) (qR none v E) := by
  have hq : kq_m 276 = some kq_q276 := rfl
  unfold b_M_handAll_42 at h
  refine gv_n hq 2 (S' := (44, [some (.ref 116), some (.int l1), none, none, none], [.int (-1 : Int32), .ref 116], D, E)) rfl ?_
  obtain ⟨r1, h1, h⟩ := Option.bind_eq_some_iff.mp h
  refine gv_d hq rfl rfl rfl rfl rfl (gv_dd (by omega) (t_M_nextSitter X F (d - 1) (by omega) D E _ _ h1)) (S' := (47, [some (.ref 116), some (.int l1), none, none, none], [.int r1], D, E)) rfl ?_
  refine gv_n hq 6 (S' := (55, [some (.ref 116), some (.int l1), some (.int r1), none, none], [.int (D 117 4), .int r1], D, E)) rfl ?_
  refine gv_b hq rfl h 58 63 rfl rfl rfl (fun h => ?_) (fun h => ?_)
  · refine gv_n hq 2 (S' := (60, [some (.ref 116), some (.int l1), some (.int r1), none, none], [.int l1, .ref 116], D, E)) rfl ?_
    obtain ⟨r2, h1, h⟩ := Option.bind_eq_some_iff.mp h
    refine gv_d hq rfl rfl rfl rfl rfl (gv_dd (by omega) (t_M_metHats X F (d - 1) (by omega) E _ _ _ h1)) (S' := (63, [some (.ref 116), some (.int l1), some (.int r1), none, none], [], r2, E)) rfl ?_
    exact gv_w (t_M_handAll_63 X F d hd E F _ _ _ _ h) (And.intro rfl (And.intro rfl (And.intro rfl trivial)))
  · exact gv_w (t_M_handAll_63 X F d hd E F _ _ _ _ h) (And.intro rfl (And.intro rfl (And.intro rfl trivial)))
def b_M_handAll_7 (F : Nat) (k7 : Int32 → Int32 → mx_D → Option (mx_D)) (l1 : Int32) (l2 : Int32) (D : mx_D) : Option (mx_D) := (if (D 117 4) ≤ l2 then (b_M_handAll_42 F l1 D) else (Option.bind (g_M_of D l2 (nI 5)) (fun r11 => (rk 8 l2 (Option.bind (g_M_set l2 (nI 5) (-1 : Int32) (sD D 131 (l2).toNatClampNeg r11)) (fun r12 => (k7 l1 (l2 + (nI 1)) r12)))))))
set_option maxRecDepth 100000 in
set_option maxHeartbeats 4000000 in
theorem tb_M_handAll_7 (X : ev_X) (F : Nat) (d : Nat) (hd : 7 ≤ d + 1) (E : mx_E) (k7 : Int32 → Int32 → mx_D → Option (mx_D)) (K7 : ∀ (l1 : Int32) (l2 : Int32) (D : mx_D) (v : mx_D), k7 l1 l2 D = some v → ev X (d + 1) 276 (7, [some (.ref 116), some (.int l1), some (.int l2), none, none], [], D, E) (qR none v E)) (l1 : Int32) (l2 : Int32) (D : mx_D) (v : mx_D) (h : b_M_handAll_7 F k7 l1 l2 D = some v) : ev X (d + 1) 276 (7, [some (.ref 116), some (.int l1), some (.int l2), none, none], [], D, E) (qR none v E) := by
  have hq : kq_m 276 = some kq_q276 := rfl
  unfold b_M_handAll_7 at h
  refine gv_n hq 5 (S' := (14, [some (.ref 116), some (.int l1), some (.int l2), none, none], [.int (D 117 4), .int l2], D, E)) rfl ?_
  refine gv_b hq rfl h 42 17 rfl rfl rfl (fun h => ?_) (fun h => ?_)
  · exact gv_w (tb_M_handAll_42 X F d hd E _ _ _ h) (And.intro rfl (And.intro rfl trivial))
  · refine gv_n hq 6 (S' := (25, [some (.ref 116), some (.int l1), some (.int l2), none, none], [.int (nI 5), .int l2, .ref 116, .int l2, .ref 131], D, E)) rfl ?_
    obtain ⟨r11, h1, h⟩ := Option.bind_eq_some_iff.mp h
    refine gv_d hq rfl rfl rfl rfl rfl ((t_M_of X d D E _ _ _ h1)) (S' := (28, [some (.ref 116), some (.int l1), some (.int l2), none, none], [.int r11, .int l2, .ref 131], D, E)) rfl ?_
    refine gv_is hq rfl rfl h 29 rfl (fun h => ?_)
    refine gv_n hq 4 (S' := (33, [some (.ref 116), some (.int l1), some (.int l2), none, none], [.int (-1 : Int32), .int (nI 5), .int l2, .ref 116], (sD D 131 (l2).toNatClampNeg r11), E)) rfl ?_
    obtain ⟨r12, h1, h⟩ := Option.bind_eq_some_iff.mp h
    refine gv_d hq rfl rfl rfl rfl rfl ((t_M_set X d E _ _ _ _ _ h1)) (S' := (36, [some (.ref 116), some (.int l1), some (.int l2), none, none], [], r12, E)) rfl ?_
    refine gv_n hq 2 (S' := (7, [some (.ref 116), some (.int l1), some (.int (l2 + (nI 1))), none, none], [], r12, E)) rfl ?_
    exact gv_w (K7 _ _ _ _ h) (And.intro rfl (And.intro rfl (And.intro rfl trivial)))
def g_M_handAll_7 (F : Nat) : Nat → Int32 → Int32 → mx_D → Option (mx_D) := it (fun k7 => b_M_handAll_7 F k7) (fun _ _ _ => none)
set_option maxRecDepth 100000 in
set_option maxHeartbeats 4000000 in
theorem t_M_handAll_7 (X : ev_X) (F : Nat) (d : Nat) (hd : 7 ≤ d + 1) (E : mx_E)  : ∀ (n : Nat) (l1 : Int32) (l2 : Int32) (D : mx_D) (v : mx_D), g_M_handAll_7 F n l1 l2 D = some v → ev X (d + 1) 276 (7, [some (.ref 116), some (.int l1), some (.int l2), none, none], [], D, E) (qR none v E) := by
  intro n
  induction n with
  | zero => intro l1 l2 D v h; cases h
  | succ n ih => intro l1 l2 D v h; exact tb_M_handAll_7 X F d hd E (g_M_handAll_7 F n) ih l1 l2 D v h
def g_M_handAll (F : Nat) (a1 : Int32) (D : mx_D) : Option (mx_D) := (g_M_handAll_7 F F a1 (nI 0) (sD D 116 30 (nI 0)))
set_option maxRecDepth 100000 in
set_option maxHeartbeats 4000000 in
theorem t_M_handAll (X : ev_X) (F : Nat) (d : Nat) (hd : 7 ≤ d + 1) (E : mx_E) (a1 : Int32) (D : mx_D) (v : mx_D) (h : g_M_handAll F a1 D = some v) : ev X (d + 1) 276 (0, [some (.ref 116), some (.int a1), none, none, none], [], D, E) (qR none v E) := by
  have hq : kq_m 276 = some kq_q276 := rfl
  unfold g_M_handAll at h
  refine gv_n hq 5 (S' := (7, [some (.ref 116), some (.int a1), some (.int (nI 0)), none, none], [], (sD D 116 30 (nI 0)), E)) rfl ?_
  exact gv_w (t_M_handAll_7 X F d hd E F _ _ _ _ h) (And.intro rfl (And.intro rfl (And.intro rfl trivial)))
def g_M_hats (F : Nat) (a1 : Int32) (D : mx_D) : Option (Int32 × mx_D) := (if (g_M_isYear D a1) = 0 then (some ((-2 : Int32), D)) else (Option.bind (g_M_handAll F a1 D) (fun r1 => (some ((r1 116 30), r1)))))
set_option maxRecDepth 100000 in
set_option maxHeartbeats 4000000 in
theorem t_M_hats (X : ev_X) (F : Nat) (d : Nat) (hd : 8 ≤ d + 1) (E : mx_E) (a1 : Int32) (D : mx_D) (v : Int32 × mx_D) (h : g_M_hats F a1 D = some v) : ev X (d + 1) 275 (0, [some (.ref 116), some (.int a1)], [], D, E) (qR (some (.int v.1)) v.2 E) := by
  have hq : kq_m 275 = some kq_q275 := rfl
  unfold g_M_hats at h
  refine gv_n hq 2 (S' := (2, [some (.ref 116), some (.int a1)], [.int a1, .ref 116], D, E)) rfl ?_
  refine gv_d hq rfl rfl rfl rfl rfl (gv_dd (by omega) (t_M_isYear X (d - 1) (by omega) D E _ _ rfl)) (S' := (5, [some (.ref 116), some (.int a1)], [.int (g_M_isYear D a1)], D, E)) rfl ?_
  refine gv_b hq rfl h 8 11 rfl rfl rfl (fun h => ?_) (fun h => ?_)
  · refine gv_n hq 1 (S' := (10, [some (.ref 116), some (.int a1)], [.int (-2 : Int32)], D, E)) rfl ?_
    cases h
    exact ev_ret hq rfl rfl ⟨rfl, rfl, rfl⟩
  · refine gv_n hq 2 (S' := (13, [some (.ref 116), some (.int a1)], [.int a1, .ref 116], D, E)) rfl ?_
    obtain ⟨r1, h1, h⟩ := Option.bind_eq_some_iff.mp h
    refine gv_d hq rfl rfl rfl rfl rfl (gv_dd (by omega) (t_M_handAll X F (d - 1) (by omega) E _ _ _ h1)) (S' := (16, [some (.ref 116), some (.int a1)], [], r1, E)) rfl ?_
    refine gv_n hq 2 (S' := (20, [some (.ref 116), some (.int a1)], [.int (r1 116 30)], r1, E)) rfl ?_
    cases h
    exact ev_ret hq rfl rfl ⟨rfl, rfl, rfl⟩
def g_X_handed (F : Nat) (a1 : Int32) (a2 : Int32) (D : mx_D) : Option (Int32 × mx_D) := (Option.bind (g_X_canAskOfSitter D a2 a1) (fun r1 => (if r1 = 0 then (some ((-2 : Int32), D)) else (Option.bind (g_HatSearch_find F a1 (nI 0) D) (fun r2 => (if (r2 51 1) = 0 then (some ((-1 : Int32), r2)) else (rk 8 a2 (some ((r2 52 (a2).toNatClampNeg), r2)))))))))
set_option maxRecDepth 100000 in
set_option maxHeartbeats 4000000 in
theorem t_X_handed (X : ev_X) (F : Nat) (d : Nat) (hd : 104 ≤ d + 1) (E : mx_E) (a1 : Int32) (a2 : Int32) (D : mx_D) (v : Int32 × mx_D) (h : g_X_handed F a1 a2 D = some v) : ev X (d + 1) 145 (0, [some (.ref 0), some (.int a1), some (.int a2)], [], D, E) (qR (some (.int v.1)) v.2 E) := by
  have hq : kq_m 145 = some kq_q145 := rfl
  unfold g_X_handed at h
  refine gv_n hq 3 (S' := (3, [some (.ref 0), some (.int a1), some (.int a2)], [.int a1, .int a2, .ref 0], D, E)) rfl ?_
  obtain ⟨r1, h1, h⟩ := Option.bind_eq_some_iff.mp h
  refine gv_d hq rfl rfl rfl rfl rfl (gv_dd (by omega) (t_X_canAskOfSitter X (d - 1) (by omega) D E _ _ _ h1)) (S' := (6, [some (.ref 0), some (.int a1), some (.int a2)], [.int r1], D, E)) rfl ?_
  refine gv_b hq rfl h 9 12 rfl rfl rfl (fun h => ?_) (fun h => ?_)
  · refine gv_n hq 1 (S' := (11, [some (.ref 0), some (.int a1), some (.int a2)], [.int (-2 : Int32)], D, E)) rfl ?_
    cases h
    exact ev_ret hq rfl rfl ⟨rfl, rfl, rfl⟩
  · refine gv_n hq 4 (S' := (18, [some (.ref 0), some (.int a1), some (.int a2)], [.int (nI 0), .int a1, .ref 51], D, E)) rfl ?_
    obtain ⟨r2, h1, h⟩ := Option.bind_eq_some_iff.mp h
    refine gv_d hq rfl rfl rfl rfl rfl (gv_dd (by omega) (t_HatSearch_find X F (d - 1) (by omega) E _ _ _ _ h1)) (S' := (21, [some (.ref 0), some (.int a1), some (.int a2)], [], r2, E)) rfl ?_
    refine gv_n hq 3 (S' := (28, [some (.ref 0), some (.int a1), some (.int a2)], [.int (r2 51 1)], r2, E)) rfl ?_
    refine gv_b hq rfl h 31 35 rfl rfl rfl (fun h => ?_) (fun h => ?_)
    · refine gv_n hq 2 (S' := (44, [some (.ref 0), some (.int a1), some (.int a2)], [.int (-1 : Int32)], r2, E)) rfl ?_
      cases h
      exact ev_ret hq rfl rfl ⟨rfl, rfl, rfl⟩
    · refine gv_n hq 4 (S' := (43, [some (.ref 0), some (.int a1), some (.int a2)], [.int a2, .ref 52], r2, E)) rfl ?_
      refine gv_ia hq rfl rfl rfl h 44 rfl (fun h => ?_)
      cases h
      exact ev_ret hq rfl rfl ⟨rfl, rfl, rfl⟩
def g_M_handed (F : Nat) (a1 : Int32) (a2 : Int32) (D : mx_D) : Option (Int32 × mx_D) := (Option.bind (g_M_isSitter D a2 a1) (fun r1 => (if r1 = 0 then (some ((-2 : Int32), D)) else (Option.bind (g_M_handAll F a1 D) (fun r2 => (if (r2 116 30) = 0 then (some ((-1 : Int32), r2)) else (rk 8 a2 (some ((r2 132 (a2).toNatClampNeg), r2)))))))))
set_option maxRecDepth 100000 in
set_option maxHeartbeats 4000000 in
theorem t_M_handed (X : ev_X) (F : Nat) (d : Nat) (hd : 8 ≤ d + 1) (E : mx_E) (a1 : Int32) (a2 : Int32) (D : mx_D) (v : Int32 × mx_D) (h : g_M_handed F a1 a2 D = some v) : ev X (d + 1) 282 (0, [some (.ref 116), some (.int a1), some (.int a2)], [], D, E) (qR (some (.int v.1)) v.2 E) := by
  have hq : kq_m 282 = some kq_q282 := rfl
  unfold g_M_handed at h
  refine gv_n hq 3 (S' := (3, [some (.ref 116), some (.int a1), some (.int a2)], [.int a1, .int a2, .ref 116], D, E)) rfl ?_
  obtain ⟨r1, h1, h⟩ := Option.bind_eq_some_iff.mp h
  refine gv_d hq rfl rfl rfl rfl rfl (gv_dd (by omega) (t_M_isSitter X (d - 1) (by omega) D E _ _ _ h1)) (S' := (6, [some (.ref 116), some (.int a1), some (.int a2)], [.int r1], D, E)) rfl ?_
  refine gv_b hq rfl h 9 12 rfl rfl rfl (fun h => ?_) (fun h => ?_)
  · refine gv_n hq 1 (S' := (11, [some (.ref 116), some (.int a1), some (.int a2)], [.int (-2 : Int32)], D, E)) rfl ?_
    cases h
    exact ev_ret hq rfl rfl ⟨rfl, rfl, rfl⟩
  · refine gv_n hq 2 (S' := (14, [some (.ref 116), some (.int a1), some (.int a2)], [.int a1, .ref 116], D, E)) rfl ?_
    obtain ⟨r2, h1, h⟩ := Option.bind_eq_some_iff.mp h
    refine gv_d hq rfl rfl rfl rfl rfl (gv_dd (by omega) (t_M_handAll X F (d - 1) (by omega) E _ _ _ h1)) (S' := (17, [some (.ref 116), some (.int a1), some (.int a2)], [], r2, E)) rfl ?_
    refine gv_n hq 2 (S' := (21, [some (.ref 116), some (.int a1), some (.int a2)], [.int (r2 116 30)], r2, E)) rfl ?_
    refine gv_b hq rfl h 24 28 rfl rfl rfl (fun h => ?_) (fun h => ?_)
    · refine gv_n hq 2 (S' := (34, [some (.ref 116), some (.int a1), some (.int a2)], [.int (-1 : Int32)], r2, E)) rfl ?_
      cases h
      exact ev_ret hq rfl rfl ⟨rfl, rfl, rfl⟩
    · refine gv_n hq 3 (S' := (33, [some (.ref 116), some (.int a1), some (.int a2)], [.int a2, .ref 132], r2, E)) rfl ?_
      refine gv_ia hq rfl rfl rfl h 34 rfl (fun h => ?_)
      cases h
      exact ev_ret hq rfl rfl ⟨rfl, rfl, rfl⟩
def g_HatSearch_isCovered (D : mx_D) (a1 : Int32) : Option (Int32) := (Option.bind (g_Church_isSeated D a1) (fun r1 => (if r1 = 0 then (some (nI 0)) else (rk 8 a1 (if (D 30 (a1).toNatClampNeg) = (-1 : Int32) then (some (nI 0)) else (some (nI 1)))))))
set_option maxRecDepth 100000 in
set_option maxHeartbeats 4000000 in
theorem t_HatSearch_isCovered (X : ev_X) (d : Nat) (hd : 2 ≤ d + 1) (D : mx_D) (E : mx_E) (a1 : Int32) (v : Int32) (h : g_HatSearch_isCovered D a1 = some v) : ev X (d + 1) 43 (0, [some (.ref 51), some (.int a1)], [], D, E) (qR (some (.int v)) D E) := by
  have hq : kq_m 43 = some kq_q43 := rfl
  unfold g_HatSearch_isCovered at h
  refine gv_n hq 3 (S' := (5, [some (.ref 51), some (.int a1)], [.int a1, .ref 19], D, E)) rfl ?_
  obtain ⟨r1, h1, h⟩ := Option.bind_eq_some_iff.mp h
  refine gv_d hq rfl rfl rfl rfl rfl (gv_dd (by omega) (t_Church_isSeated X (d - 1) (by omega) D E _ _ h1)) (S' := (8, [some (.ref 51), some (.int a1)], [.int r1], D, E)) rfl ?_
  refine gv_b hq rfl h 31 11 rfl rfl rfl (fun h => ?_) (fun h => ?_)
  · refine gv_n hq 1 (S' := (32, [some (.ref 51), some (.int a1)], [.int (nI 0)], D, E)) rfl ?_
    cases h
    exact ev_ret hq rfl rfl ⟨rfl, rfl, rfl⟩
  · refine gv_n hq 5 (S' := (22, [some (.ref 51), some (.int a1)], [.int a1, .ref 30], D, E)) rfl ?_
    refine gv_ia hq rfl rfl rfl h 23 rfl (fun h => ?_)
    refine gv_n hq 1 (S' := (24, [some (.ref 51), some (.int a1)], [.int (-1 : Int32), .int (D 30 (a1).toNatClampNeg)], D, E)) rfl ?_
    refine gv_b hq rfl h 31 27 rfl rfl rfl (fun h => ?_) (fun h => ?_)
    · refine gv_n hq 1 (S' := (32, [some (.ref 51), some (.int a1)], [.int (nI 0)], D, E)) rfl ?_
      cases h
      exact ev_ret hq rfl rfl ⟨rfl, rfl, rfl⟩
    · refine gv_n hq 2 (S' := (32, [some (.ref 51), some (.int a1)], [.int (nI 1)], D, E)) rfl ?_
      cases h
      exact ev_ret hq rfl rfl ⟨rfl, rfl, rfl⟩
def b_HatSearch_nextOf_12 (F : Nat) (D : mx_D) (k12 : Int32 → Int32 → Option (Int32)) (l1 : Int32) (l2 : Int32) : Option (Int32) := (if (D 24 6) ≤ l2 then (some (-1 : Int32)) else (Option.bind (g_HatSearch_isCovered D l2) (fun r2 => (if r2 = 0 then (k12 l1 (l2 + (nI 1))) else (rk 8 l2 (rk 8 l1 (if (D 52 (l2).toNatClampNeg) = (D 30 (l1).toNatClampNeg) then (some l2) else (k12 l1 (l2 + (nI 1))))))))))
set_option maxRecDepth 100000 in
set_option maxHeartbeats 4000000 in
theorem tb_HatSearch_nextOf_12 (X : ev_X) (F : Nat) (d : Nat) (hd : 3 ≤ d + 1) (D : mx_D) (E : mx_E) (k12 : Int32 → Int32 → Option (Int32)) (K12 : ∀ (l1 : Int32) (l2 : Int32) (v : Int32), k12 l1 l2 = some v → ev X (d + 1) 42 (12, [some (.ref 51), some (.int l1), some (.int l2)], [], D, E) (qR (some (.int v)) D E)) (l1 : Int32) (l2 : Int32) (v : Int32) (h : b_HatSearch_nextOf_12 F D k12 l1 l2 = some v) : ev X (d + 1) 42 (12, [some (.ref 51), some (.int l1), some (.int l2)], [], D, E) (qR (some (.int v)) D E) := by
  have hq : kq_m 42 = some kq_q42 := rfl
  unfold b_HatSearch_nextOf_12 at h
  refine gv_n hq 5 (S' := (23, [some (.ref 51), some (.int l1), some (.int l2)], [.int (D 24 6), .int l2], D, E)) rfl ?_
  refine gv_b hq rfl h 63 26 rfl rfl rfl (fun h => ?_) (fun h => ?_)
  · refine gv_n hq 1 (S' := (64, [some (.ref 51), some (.int l1), some (.int l2)], [.int (-1 : Int32)], D, E)) rfl ?_
    cases h
    exact ev_ret hq rfl rfl ⟨rfl, rfl, rfl⟩
  · refine gv_n hq 2 (S' := (28, [some (.ref 51), some (.int l1), some (.int l2)], [.int l2, .ref 51], D, E)) rfl ?_
    obtain ⟨r2, h1, h⟩ := Option.bind_eq_some_iff.mp h
    refine gv_d hq rfl rfl rfl rfl rfl (gv_dd (by omega) (t_HatSearch_isCovered X (d - 1) (by omega) D E _ _ h1)) (S' := (31, [some (.ref 51), some (.int l1), some (.int l2)], [.int r2], D, E)) rfl ?_
    refine gv_b hq rfl h 57 34 rfl rfl rfl (fun h => ?_) (fun h => ?_)
    · refine gv_n hq 2 (S' := (12, [some (.ref 51), some (.int l1), some (.int (l2 + (nI 1)))], [], D, E)) rfl ?_
      exact gv_w (K12 _ _ _ h) (And.intro rfl (And.intro rfl (And.intro rfl trivial)))
    · refine gv_n hq 3 (S' := (39, [some (.ref 51), some (.int l1), some (.int l2)], [.int l2, .ref 52], D, E)) rfl ?_
      refine gv_ia hq rfl rfl rfl h 40 rfl (fun h => ?_)
      refine gv_n hq 5 (S' := (51, [some (.ref 51), some (.int l1), some (.int l2)], [.int l1, .ref 30, .int (D 52 (l2).toNatClampNeg)], D, E)) rfl ?_
      refine gv_ia hq rfl rfl rfl h 52 rfl (fun h => ?_)
      refine gv_b hq rfl h 55 57 rfl rfl rfl (fun h => ?_) (fun h => ?_)
      · refine gv_n hq 1 (S' := (56, [some (.ref 51), some (.int l1), some (.int l2)], [.int l2], D, E)) rfl ?_
        cases h
        exact ev_ret hq rfl rfl ⟨rfl, rfl, rfl⟩
      · refine gv_n hq 2 (S' := (12, [some (.ref 51), some (.int l1), some (.int (l2 + (nI 1)))], [], D, E)) rfl ?_
        exact gv_w (K12 _ _ _ h) (And.intro rfl (And.intro rfl (And.intro rfl trivial)))
def g_HatSearch_nextOf_12 (F : Nat) (D : mx_D) : Nat → Int32 → Int32 → Option (Int32) := it (fun k12 => b_HatSearch_nextOf_12 F D k12) (fun _ _ => none)
set_option maxRecDepth 100000 in
set_option maxHeartbeats 4000000 in
theorem t_HatSearch_nextOf_12 (X : ev_X) (F : Nat) (d : Nat) (hd : 3 ≤ d + 1) (D : mx_D) (E : mx_E)  : ∀ (n : Nat) (l1 : Int32) (l2 : Int32) (v : Int32), g_HatSearch_nextOf_12 F D n l1 l2 = some v → ev X (d + 1) 42 (12, [some (.ref 51), some (.int l1), some (.int l2)], [], D, E) (qR (some (.int v)) D E) := by
  intro n
  induction n with
  | zero => intro l1 l2 v h; cases h
  | succ n ih => intro l1 l2 v h; exact tb_HatSearch_nextOf_12 X F d hd D E (g_HatSearch_nextOf_12 F D n) ih l1 l2 v h
def g_HatSearch_nextOf (F : Nat) (D : mx_D) (a1 : Int32) : Option (Int32) := (Option.bind (g_HatSearch_isCovered D a1) (fun r1 => (if r1 = 0 then (some (-1 : Int32)) else (g_HatSearch_nextOf_12 F D F a1 (nI 0)))))
set_option maxRecDepth 100000 in
set_option maxHeartbeats 4000000 in
theorem t_HatSearch_nextOf (X : ev_X) (F : Nat) (d : Nat) (hd : 3 ≤ d + 1) (D : mx_D) (E : mx_E) (a1 : Int32) (v : Int32) (h : g_HatSearch_nextOf F D a1 = some v) : ev X (d + 1) 42 (0, [some (.ref 51), some (.int a1), none], [], D, E) (qR (some (.int v)) D E) := by
  have hq : kq_m 42 = some kq_q42 := rfl
  unfold g_HatSearch_nextOf at h
  refine gv_n hq 2 (S' := (2, [some (.ref 51), some (.int a1), none], [.int a1, .ref 51], D, E)) rfl ?_
  obtain ⟨r1, h1, h⟩ := Option.bind_eq_some_iff.mp h
  refine gv_d hq rfl rfl rfl rfl rfl (gv_dd (by omega) (t_HatSearch_isCovered X (d - 1) (by omega) D E _ _ h1)) (S' := (5, [some (.ref 51), some (.int a1), none], [.int r1], D, E)) rfl ?_
  refine gv_b hq rfl h 8 10 rfl rfl rfl (fun h => ?_) (fun h => ?_)
  · refine gv_n hq 1 (S' := (9, [some (.ref 51), some (.int a1), none], [.int (-1 : Int32)], D, E)) rfl ?_
    cases h
    exact ev_ret hq rfl rfl ⟨rfl, rfl, rfl⟩
  · refine gv_n hq 2 (S' := (12, [some (.ref 51), some (.int a1), some (.int (nI 0))], [], D, E)) rfl ?_
    exact gv_w (t_HatSearch_nextOf_12 X F d hd D E F _ _ _ h) (And.intro rfl (And.intro rfl (And.intro rfl trivial)))
def b_HatSearch_ringFrom_4 (F : Nat) (D : mx_D) (k4 : Int32 → Int32 → Int32 → Option (Int32)) (l1 : Int32) (l2 : Int32) (l3 : Int32) : Option (Int32) := (if (nI 8) < l3 then (some (nI 0)) else (Option.bind (g_HatSearch_nextOf F D l2) (fun r1 => (if l1 ≤ r1 then (if r1 = l1 then (if l3 ≤ (nI 1) then (some (nI 0)) else (some l3)) else (k4 l1 r1 (l3 + (nI 1)))) else (some (nI 0))))))
set_option maxRecDepth 100000 in
set_option maxHeartbeats 4000000 in
theorem tb_HatSearch_ringFrom_4 (X : ev_X) (F : Nat) (d : Nat) (hd : 4 ≤ d + 1) (D : mx_D) (E : mx_E) (k4 : Int32 → Int32 → Int32 → Option (Int32)) (K4 : ∀ (l1 : Int32) (l2 : Int32) (l3 : Int32) (v : Int32), k4 l1 l2 l3 = some v → ev X (d + 1) 41 (4, [some (.ref 51), some (.int l1), some (.int l2), some (.int l3)], [], D, E) (qR (some (.int v)) D E)) (l1 : Int32) (l2 : Int32) (l3 : Int32) (v : Int32) (h : b_HatSearch_ringFrom_4 F D k4 l1 l2 l3 = some v) : ev X (d + 1) 41 (4, [some (.ref 51), some (.int l1), some (.int l2), some (.int l3)], [], D, E) (qR (some (.int v)) D E) := by
  have hq : kq_m 41 = some kq_q41 := rfl
  unfold b_HatSearch_ringFrom_4 at h
  refine gv_n hq 2 (S' := (7, [some (.ref 51), some (.int l1), some (.int l2), some (.int l3)], [.int (nI 8), .int l3], D, E)) rfl ?_
  refine gv_b hq rfl h 45 10 rfl rfl rfl (fun h => ?_) (fun h => ?_)
  · refine gv_n hq 1 (S' := (46, [some (.ref 51), some (.int l1), some (.int l2), some (.int l3)], [.int (nI 0)], D, E)) rfl ?_
    cases h
    exact ev_ret hq rfl rfl ⟨rfl, rfl, rfl⟩
  · refine gv_n hq 2 (S' := (12, [some (.ref 51), some (.int l1), some (.int l2), some (.int l3)], [.int l2, .ref 51], D, E)) rfl ?_
    obtain ⟨r1, h1, h⟩ := Option.bind_eq_some_iff.mp h
    refine gv_d hq rfl rfl rfl rfl rfl (gv_dd (by omega) (t_HatSearch_nextOf X F (d - 1) (by omega) D E _ _ h1)) (S' := (15, [some (.ref 51), some (.int l1), some (.int l2), some (.int l3)], [.int r1], D, E)) rfl ?_
    refine gv_n hq 3 (S' := (18, [some (.ref 51), some (.int l1), some (.int r1), some (.int l3)], [.int l1, .int r1], D, E)) rfl ?_
    refine gv_b hq rfl h 23 21 rfl rfl rfl (fun h => ?_) (fun h => ?_)
    · refine gv_n hq 2 (S' := (25, [some (.ref 51), some (.int l1), some (.int r1), some (.int l3)], [.int l1, .int r1], D, E)) rfl ?_
      refine gv_b hq rfl h 28 39 rfl rfl rfl (fun h => ?_) (fun h => ?_)
      · refine gv_n hq 2 (S' := (30, [some (.ref 51), some (.int l1), some (.int r1), some (.int l3)], [.int (nI 1), .int l3], D, E)) rfl ?_
        refine gv_b hq rfl h 37 33 rfl rfl rfl (fun h => ?_) (fun h => ?_)
        · refine gv_n hq 1 (S' := (38, [some (.ref 51), some (.int l1), some (.int r1), some (.int l3)], [.int (nI 0)], D, E)) rfl ?_
          cases h
          exact ev_ret hq rfl rfl ⟨rfl, rfl, rfl⟩
        · refine gv_n hq 2 (S' := (38, [some (.ref 51), some (.int l1), some (.int r1), some (.int l3)], [.int l3], D, E)) rfl ?_
          cases h
          exact ev_ret hq rfl rfl ⟨rfl, rfl, rfl⟩
      · refine gv_n hq 2 (S' := (4, [some (.ref 51), some (.int l1), some (.int r1), some (.int (l3 + (nI 1)))], [], D, E)) rfl ?_
        exact gv_w (K4 _ _ _ _ h) (And.intro rfl (And.intro rfl (And.intro rfl (And.intro rfl trivial))))
    · refine gv_n hq 1 (S' := (22, [some (.ref 51), some (.int l1), some (.int r1), some (.int l3)], [.int (nI 0)], D, E)) rfl ?_
      cases h
      exact ev_ret hq rfl rfl ⟨rfl, rfl, rfl⟩
def g_HatSearch_ringFrom_4 (F : Nat) (D : mx_D) : Nat → Int32 → Int32 → Int32 → Option (Int32) := it (fun k4 => b_HatSearch_ringFrom_4 F D k4) (fun _ _ _ => none)
set_option maxRecDepth 100000 in
set_option maxHeartbeats 4000000 in
theorem t_HatSearch_ringFrom_4 (X : ev_X) (F : Nat) (d : Nat) (hd : 4 ≤ d + 1) (D : mx_D) (E : mx_E)  : ∀ (n : Nat) (l1 : Int32) (l2 : Int32) (l3 : Int32) (v : Int32), g_HatSearch_ringFrom_4 F D n l1 l2 l3 = some v → ev X (d + 1) 41 (4, [some (.ref 51), some (.int l1), some (.int l2), some (.int l3)], [], D, E) (qR (some (.int v)) D E) := by
  intro n
  induction n with
  | zero => intro l1 l2 l3 v h; cases h
  | succ n ih => intro l1 l2 l3 v h; exact tb_HatSearch_ringFrom_4 X F d hd D E (g_HatSearch_ringFrom_4 F D n) ih l1 l2 l3 v h
def g_HatSearch_ringFrom (F : Nat) (D : mx_D) (a1 : Int32) : Option (Int32) := (g_HatSearch_ringFrom_4 F D F a1 a1 (nI 1))
set_option maxRecDepth 100000 in
set_option maxHeartbeats 4000000 in
theorem t_HatSearch_ringFrom (X : ev_X) (F : Nat) (d : Nat) (hd : 4 ≤ d + 1) (D : mx_D) (E : mx_E) (a1 : Int32) (v : Int32) (h : g_HatSearch_ringFrom F D a1 = some v) : ev X (d + 1) 41 (0, [some (.ref 51), some (.int a1), none, none], [], D, E) (qR (some (.int v)) D E) := by
  have hq : kq_m 41 = some kq_q41 := rfl
  unfold g_HatSearch_ringFrom at h
  refine gv_n hq 4 (S' := (4, [some (.ref 51), some (.int a1), some (.int a1), some (.int (nI 1))], [], D, E)) rfl ?_
  exact gv_w (t_HatSearch_ringFrom_4 X F d hd D E F _ _ _ _ h) (And.intro rfl (And.intro rfl (And.intro rfl (And.intro rfl trivial))))
def b_HatSearch_ringsOf_7 (F : Nat) (D : mx_D) (k7 : Int32 → Int32 → Int32 → Int32 → Option (Int32)) (l1 : Int32) (l2 : Int32) (l3 : Int32) (l4 : Int32) : Option (Int32) := (if (D 24 6) ≤ l4 then (if l1 = 0 then (some l2) else (some l3)) else (Option.bind (g_HatSearch_ringFrom F D l4) (fun r1 => (if r1 ≤ 0 then (k7 l1 (l2 + (nI 0)) (imx l3 r1) (l4 + (nI 1))) else (k7 l1 (l2 + (nI 1)) (imx l3 r1) (l4 + (nI 1)))))))
set_option maxRecDepth 100000 in
set_option maxHeartbeats 4000000 in
theorem tb_HatSearch_ringsOf_7 (X : ev_X) (F : Nat) (d : Nat) (hd : 5 ≤ d + 1) (D : mx_D) (E : mx_E) (k7 : Int32 → Int32 → Int32 → Int32 → Option (Int32)) (K7 : ∀ (l1 : Int32) (l2 : Int32) (l3 : Int32) (l4 : Int32) (v : Int32), k7 l1 l2 l3 l4 = some v → ev X (d + 1) 40 (7, [some (.ref 51), some (.int l1), some (.int l2), some (.int l3), some (.int l4), none], [], D, E) (qR (some (.int v)) D E)) (l1 : Int32) (l2 : Int32) (l3 : Int32) (l4 : Int32) (v : Int32) (h : b_HatSearch_ringsOf_7 F D k7 l1 l2 l3 l4 = some v) : ev X (d + 1) 40 (7, [some (.ref 51), some (.int l1), some (.int l2), some (.int l3), some (.int l4), none], [], D, E) (qR (some (.int v)) D E) := by
  have hq : kq_m 40 = some kq_q40 := rfl
  unfold b_HatSearch_ringsOf_7 at h
  refine gv_n hq 5 (S' := (19, [some (.ref 51), some (.int l1), some (.int l2), some (.int l3), some (.int l4), none], [.int (D 24 6), .int l4], D, E)) rfl ?_
  refine gv_b hq rfl h 56 22 rfl rfl rfl (fun h => ?_) (fun h => ?_)
  · refine gv_n hq 1 (S' := (57, [some (.ref 51), some (.int l1), some (.int l2), some (.int l3), some (.int l4), none], [.int l1], D, E)) rfl ?_
    refine gv_b hq rfl h 64 60 rfl rfl rfl (fun h => ?_) (fun h => ?_)
    · refine gv_n hq 1 (S' := (65, [some (.ref 51), some (.int l1), some (.int l2), some (.int l3), some (.int l4), none], [.int l2], D, E)) rfl ?_
      cases h
      exact ev_ret hq rfl rfl ⟨rfl, rfl, rfl⟩
    · refine gv_n hq 2 (S' := (65, [some (.ref 51), some (.int l1), some (.int l2), some (.int l3), some (.int l4), none], [.int l3], D, E)) rfl ?_
      cases h
      exact ev_ret hq rfl rfl ⟨rfl, rfl, rfl⟩
  · refine gv_n hq 2 (S' := (25, [some (.ref 51), some (.int l1), some (.int l2), some (.int l3), some (.int l4), none], [.int l4, .ref 51], D, E)) rfl ?_
    obtain ⟨r1, h1, h⟩ := Option.bind_eq_some_iff.mp h
    refine gv_d hq rfl rfl rfl rfl rfl (gv_dd (by omega) (t_HatSearch_ringFrom X F (d - 1) (by omega) D E _ _ h1)) (S' := (28, [some (.ref 51), some (.int l1), some (.int l2), some (.int l3), some (.int l4), none], [.int r1], D, E)) rfl ?_
    refine gv_n hq 3 (S' := (33, [some (.ref 51), some (.int l1), some (.int l2), some (.int l3), some (.int l4), some (.int r1)], [.int r1, .int l2], D, E)) rfl ?_
    refine gv_b hq rfl h 40 36 rfl rfl rfl (fun h => ?_) (fun h => ?_)
    · refine gv_n hq 9 (S' := (7, [some (.ref 51), some (.int l1), some (.int (l2 + (nI 0))), some (.int (imx l3 r1)), some (.int (l4 + (nI 1))), some (.int r1)], [], D, E)) rfl ?_
      exact gv_w (K7 _ _ _ _ _ h) (And.intro rfl (And.intro rfl (And.intro rfl (And.intro rfl (And.intro rfl trivial)))))
    · refine gv_n hq 10 (S' := (7, [some (.ref 51), some (.int l1), some (.int (l2 + (nI 1))), some (.int (imx l3 r1)), some (.int (l4 + (nI 1))), some (.int r1)], [], D, E)) rfl ?_
      exact gv_w (K7 _ _ _ _ _ h) (And.intro rfl (And.intro rfl (And.intro rfl (And.intro rfl (And.intro rfl trivial)))))
def g_HatSearch_ringsOf_7 (F : Nat) (D : mx_D) : Nat → Int32 → Int32 → Int32 → Int32 → Option (Int32) := it (fun k7 => b_HatSearch_ringsOf_7 F D k7) (fun _ _ _ _ => none)
set_option maxRecDepth 100000 in
set_option maxHeartbeats 4000000 in
theorem t_HatSearch_ringsOf_7 (X : ev_X) (F : Nat) (d : Nat) (hd : 5 ≤ d + 1) (D : mx_D) (E : mx_E)  : ∀ (n : Nat) (l1 : Int32) (l2 : Int32) (l3 : Int32) (l4 : Int32) (v : Int32), g_HatSearch_ringsOf_7 F D n l1 l2 l3 l4 = some v → ev X (d + 1) 40 (7, [some (.ref 51), some (.int l1), some (.int l2), some (.int l3), some (.int l4), none], [], D, E) (qR (some (.int v)) D E) := by
  intro n
  induction n with
  | zero => intro l1 l2 l3 l4 v h; cases h
  | succ n ih => intro l1 l2 l3 l4 v h; exact tb_HatSearch_ringsOf_7 X F d hd D E (g_HatSearch_ringsOf_7 F D n) ih l1 l2 l3 l4 v h
def g_HatSearch_ringsOf (F : Nat) (D : mx_D) (a1 : Int32) : Option (Int32) := (g_HatSearch_ringsOf_7 F D F a1 (nI 0) (nI 0) (nI 0))
set_option maxRecDepth 100000 in
set_option maxHeartbeats 4000000 in
theorem t_HatSearch_ringsOf (X : ev_X) (F : Nat) (d : Nat) (hd : 5 ≤ d + 1) (D : mx_D) (E : mx_E) (a1 : Int32) (v : Int32) (h : g_HatSearch_ringsOf F D a1 = some v) : ev X (d + 1) 40 (0, [some (.ref 51), some (.int a1), none, none, none, none], [], D, E) (qR (some (.int v)) D E) := by
  have hq : kq_m 40 = some kq_q40 := rfl
  unfold g_HatSearch_ringsOf at h
  refine gv_n hq 6 (S' := (7, [some (.ref 51), some (.int a1), some (.int (nI 0)), some (.int (nI 0)), some (.int (nI 0)), none], [], D, E)) rfl ?_
  exact gv_w (t_HatSearch_ringsOf_7 X F d hd D E F _ _ _ _ _ h) (And.intro rfl (And.intro rfl (And.intro rfl (And.intro rfl (And.intro rfl trivial)))))
