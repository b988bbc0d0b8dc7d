/-! ===== pictures of the methods and the rows that tie them to their frames, printed by a program of mine ===== -/
def g_M_draw (E : mx_E) : Int32 × mx_E := (((((((sE E 116 34 ((((1103515245 : Int64) * (E 116 34)) + (12345 : Int64)) - (((1103515245 : Int64) * (E 116 34)) + (12345 : Int64)) / (2147483648 : Int64) * (2147483648 : Int64))) 116 34) / (65536 : Int64)) - (((sE E 116 34 ((((1103515245 : Int64) * (E 116 34)) + (12345 : Int64)) - (((1103515245 : Int64) * (E 116 34)) + (12345 : Int64)) / (2147483648 : Int64) * (2147483648 : Int64))) 116 34) / (65536 : Int64)) / (10 : Int64) * (10 : Int64))).toInt32), (sE E 116 34 ((((1103515245 : Int64) * (E 116 34)) + (12345 : Int64)) - (((1103515245 : Int64) * (E 116 34)) + (12345 : Int64)) / (2147483648 : Int64) * (2147483648 : Int64))))
set_option maxRecDepth 100000 in
set_option maxHeartbeats 4000000 in
theorem t_M_draw (X : ev_X) (d : Nat) (D : mx_D) (E : mx_E) (v : Int32 × mx_E) (h : g_M_draw E = v) : ev X d 323 (0, [some (.ref 116)], [], D, E) (qR (some (.int v.1)) D v.2) := by
  have hq : kq_m 323 = some kq_q323 := rfl
  unfold g_M_draw at h
  refine gv_n hq 17 (S' := (33, [some (.ref 116)], [.int ((((((sE E 116 34 ((((1103515245 : Int64) * (E 116 34)) + (12345 : Int64)) - (((1103515245 : Int64) * (E 116 34)) + (12345 : Int64)) / (2147483648 : Int64) * (2147483648 : Int64))) 116 34) / (65536 : Int64)) - (((sE E 116 34 ((((1103515245 : Int64) * (E 116 34)) + (12345 : Int64)) - (((1103515245 : Int64) * (E 116 34)) + (12345 : Int64)) / (2147483648 : Int64) * (2147483648 : Int64))) 116 34) / (65536 : Int64)) / (10 : Int64) * (10 : Int64))).toInt32)], D, (sE E 116 34 ((((1103515245 : Int64) * (E 116 34)) + (12345 : Int64)) - (((1103515245 : Int64) * (E 116 34)) + (12345 : Int64)) / (2147483648 : Int64) * (2147483648 : Int64))))) rfl ?_
  subst h
  exact ev_ret hq rfl rfl ⟨rfl, rfl, rfl⟩
def b_M_growsOn_2 (F : Nat) (k2 : Int32 → mx_D → mx_E → Option (mx_D × mx_E)) (l1 : Int32) (D : mx_D) (E : mx_E) : Option (mx_D × mx_E) := (if (D 117 4) ≤ l1 then (some (D, E)) else (rk 8 l1 (rk 8 l1 (k2 (l1 + (nI 1)) (sD D 136 (l1).toNatClampNeg ((D 136 (l1).toNatClampNeg) + (g_M_draw E).1)) (g_M_draw E).2))))
set_option maxRecDepth 100000 in
set_option maxHeartbeats 4000000 in
theorem tb_M_growsOn_2 (X : ev_X) (F : Nat) (d : Nat) (hd : 1 ≤ d + 1) (k2 : Int32 → mx_D → mx_E → Option (mx_D × mx_E)) (K2 : ∀ (l1 : Int32) (D : mx_D) (E : mx_E) (v : mx_D × mx_E), k2 l1 D E = some v → ev X (d + 1) 322 (2, [some (.ref 116), some (.int l1)], [], D, E) (qR none v.1 v.2)) (l1 : Int32) (D : mx_D) (E : mx_E) (v : mx_D × mx_E) (h : b_M_growsOn_2 F k2 l1 D E = some v) : ev X (d + 1) 322 (2, [some (.ref 116), some (.int l1)], [], D, E) (qR none v.1 v.2) := by
  have hq : kq_m 322 = some kq_q322 := rfl
  unfold b_M_growsOn_2 at h
  refine gv_n hq 5 (S' := (9, [some (.ref 116), some (.int l1)], [.int (D 117 4), .int l1], D, E)) rfl ?_
  refine gv_b hq rfl h 31 12 rfl rfl rfl (fun h => ?_) (fun h => ?_)
  · cases h
    exact ev_ret hq rfl rfl ⟨rfl, rfl, rfl⟩
  · refine gv_n hq 4 (S' := (18, [some (.ref 116), some (.int l1)], [.int l1, .ref 136, .int l1, .ref 136], D, E)) rfl ?_
    refine gv_ia hq rfl rfl rfl h 19 rfl (fun h => ?_)
    refine gv_n hq 1 (S' := (20, [some (.ref 116), some (.int l1)], [.ref 116, .int (D 136 (l1).toNatClampNeg), .int l1, .ref 136], D, E)) rfl ?_
    refine gv_d hq rfl rfl rfl rfl rfl ((t_M_draw X d D _ _ rfl)) (S' := (23, [some (.ref 116), some (.int l1)], [.int (g_M_draw E).1, .int (D 136 (l1).toNatClampNeg), .int l1, .ref 136], D, (g_M_draw E).2)) rfl ?_
    refine gv_n hq 1 (S' := (24, [some (.ref 116), some (.int l1)], [.int ((D 136 (l1).toNatClampNeg) + (g_M_draw E).1), .int l1, .ref 136], D, (g_M_draw E).2)) rfl ?_
    refine gv_is hq rfl rfl h 25 rfl (fun h => ?_)
    refine gv_n hq 2 (S' := (2, [some (.ref 116), some (.int (l1 + (nI 1)))], [], (sD D 136 (l1).toNatClampNeg ((D 136 (l1).toNatClampNeg) + (g_M_draw E).1)), (g_M_draw E).2)) rfl ?_
    exact gv_w (K2 _ _ _ _ h) (And.intro rfl (And.intro rfl trivial))
def g_M_growsOn_2 (F : Nat) : Nat → Int32 → mx_D → mx_E → Option (mx_D × mx_E) := it (fun k2 => b_M_growsOn_2 F k2) (fun _ _ _ => none)
set_option maxRecDepth 100000 in
set_option maxHeartbeats 4000000 in
theorem t_M_growsOn_2 (X : ev_X) (F : Nat) (d : Nat) (hd : 1 ≤ d + 1)  : ∀ (n : Nat) (l1 : Int32) (D : mx_D) (E : mx_E) (v : mx_D × mx_E), g_M_growsOn_2 F n l1 D E = some v → ev X (d + 1) 322 (2, [some (.ref 116), some (.int l1)], [], D, E) (qR none v.1 v.2) := by
  intro n
  induction n with
  | zero => intro l1 D E v h; cases h
  | succ n ih => intro l1 D E v h; exact tb_M_growsOn_2 X F d hd (g_M_growsOn_2 F n) ih l1 D E v h
def g_M_growsOn (F : Nat) (D : mx_D) (E : mx_E) : Option (mx_D × mx_E) := (g_M_growsOn_2 F F (nI 0) D E)
set_option maxRecDepth 100000 in
set_option maxHeartbeats 4000000 in
theorem t_M_growsOn (X : ev_X) (F : Nat) (d : Nat) (hd : 1 ≤ d + 1) (D : mx_D) (E : mx_E) (v : mx_D × mx_E) (h : g_M_growsOn F D E = some v) : ev X (d + 1) 322 (0, [some (.ref 116), none], [], D, E) (qR none v.1 v.2) := by
  have hq : kq_m 322 = some kq_q322 := rfl
  unfold g_M_growsOn at h
  refine gv_n hq 2 (S' := (2, [some (.ref 116), some (.int (nI 0))], [], D, E)) rfl ?_
  exact gv_w (t_M_growsOn_2 X F d hd F _ _ _ _ h) (And.intro rfl (And.intro rfl trivial))
def b_M_firstDrawn_7 (F : Nat) (k7 : Int32 → mx_D → mx_E → Option (Int32 × mx_D × mx_E)) (l3 : Int32) (D : mx_D) (E : mx_E) : Option (Int32 × mx_D × mx_E) := (if (nI 30) < l3 then (some ((-1 : Int32), D, E)) else (if l3 ≤ 0 then (Option.bind (g_M_isLevelDrawn F D) (fun r2 => (if r2.1 = 0 then (some (l3, r2.2, E)) else (k7 (l3 + (nI 1)) r2.2 E)))) else (Option.bind (g_M_growsOn F D E) (fun r3 => (Option.bind (g_M_isLevelDrawn F r3.1) (fun r4 => (if r4.1 = 0 then (some (l3, r4.2, r3.2)) else (k7 (l3 + (nI 1)) r4.2 r3.2))))))))
set_option maxRecDepth 100000 in
set_option maxHeartbeats 4000000 in
theorem tb_M_firstDrawn_7 (X : ev_X) (F : Nat) (d : Nat) (hd : 6 ≤ d + 1) (k7 : Int32 → mx_D → mx_E → Option (Int32 × mx_D × mx_E)) (K7 : ∀ (l3 : Int32) (D : mx_D) (E : mx_E) (v : Int32 × mx_D × mx_E), k7 l3 D E = some v → ev X (d + 1) 320 (7, [some (.ref 116), none, none, some (.int l3)], [], D, E) (qR (some (.int v.1)) v.2.1 v.2.2)) (l3 : Int32) (D : mx_D) (E : mx_E) (v : Int32 × mx_D × mx_E) (h : b_M_firstDrawn_7 F k7 l3 D E = some v) : ev X (d + 1) 320 (7, [some (.ref 116), none, none, some (.int l3)], [], D, E) (qR (some (.int v.1)) v.2.1 v.2.2) := by
  have hq : kq_m 320 = some kq_q320 := rfl
  unfold b_M_firstDrawn_7 at h
  refine gv_n hq 2 (S' := (10, [some (.ref 116), none, none, some (.int l3)], [.int (nI 30), .int l3], D, E)) rfl ?_
  refine gv_b hq rfl h 36 13 rfl rfl rfl (fun h => ?_) (fun h => ?_)
  · refine gv_n hq 1 (S' := (37, [some (.ref 116), none, none, some (.int l3)], [.int (-1 : Int32)], D, E)) rfl ?_
    cases h
    exact ev_ret hq rfl rfl ⟨rfl, rfl, rfl⟩
  · refine gv_n hq 1 (S' := (14, [some (.ref 116), none, none, some (.int l3)], [.int l3], D, E)) rfl ?_
    refine gv_b hq rfl h 21 17 rfl rfl rfl (fun h => ?_) (fun h => ?_)
    · refine gv_n hq 1 (S' := (22, [some (.ref 116), none, none, some (.int l3)], [.ref 116], D, E)) rfl ?_
      obtain ⟨r2, h1, h⟩ := Option.bind_eq_some_iff.mp h
      refine gv_d hq rfl rfl rfl rfl rfl (gv_dd (by omega) (t_M_isLevelDrawn X F (d - 1) (by omega) E _ _ h1)) (S' := (25, [some (.ref 116), none, none, some (.int l3)], [.int r2.1], r2.2, E)) rfl ?_
      refine gv_b hq rfl h 28 30 rfl rfl rfl (fun h => ?_) (fun h => ?_)
      · refine gv_n hq 1 (S' := (29, [some (.ref 116), none, none, some (.int l3)], [.int l3], r2.2, E)) rfl ?_
        cases h
        exact ev_ret hq rfl rfl ⟨rfl, rfl, rfl⟩
      · refine gv_n hq 2 (S' := (7, [some (.ref 116), none, none, some (.int (l3 + (nI 1)))], [], r2.2, E)) rfl ?_
        exact gv_w (K7 _ _ _ _ h) (And.intro rfl (And.intro rfl trivial))
    · refine gv_n hq 1 (S' := (18, [some (.ref 116), none, none, some (.int l3)], [.ref 116], D, E)) rfl ?_
      obtain ⟨r3, h1, h⟩ := Option.bind_eq_some_iff.mp h
      refine gv_d hq rfl rfl rfl rfl rfl (gv_dd (by omega) (t_M_growsOn X F (d - 1) (by omega) _ _ _ h1)) (S' := (21, [some (.ref 116), none, none, some (.int l3)], [], r3.1, r3.2)) rfl ?_
      refine gv_n hq 1 (S' := (22, [some (.ref 116), none, none, some (.int l3)], [.ref 116], r3.1, r3.2)) rfl ?_
      obtain ⟨r4, h1, h⟩ := Option.bind_eq_some_iff.mp h
      refine gv_d hq rfl rfl rfl rfl rfl (gv_dd (by omega) (t_M_isLevelDrawn X F (d - 1) (by omega) r3.2 _ _ h1)) (S' := (25, [some (.ref 116), none, none, some (.int l3)], [.int r4.1], r4.2, r3.2)) rfl ?_
      refine gv_b hq rfl h 28 30 rfl rfl rfl (fun h => ?_) (fun h => ?_)
      · refine gv_n hq 1 (S' := (29, [some (.ref 116), none, none, some (.int l3)], [.int l3], r4.2, r3.2)) rfl ?_
        cases h
        exact ev_ret hq rfl rfl ⟨rfl, rfl, rfl⟩
      · refine gv_n hq 2 (S' := (7, [some (.ref 116), none, none, some (.int (l3 + (nI 1)))], [], r4.2, r3.2)) rfl ?_
        exact gv_w (K7 _ _ _ _ h) (And.intro rfl (And.intro rfl trivial))
def g_M_firstDrawn_7 (F : Nat) : Nat → Int32 → mx_D → mx_E → Option (Int32 × mx_D × mx_E) := it (fun k7 => b_M_firstDrawn_7 F k7) (fun _ _ _ => none)
set_option maxRecDepth 100000 in
set_option maxHeartbeats 4000000 in
theorem t_M_firstDrawn_7 (X : ev_X) (F : Nat) (d : Nat) (hd : 6 ≤ d + 1)  : ∀ (n : Nat) (l3 : Int32) (D : mx_D) (E : mx_E) (v : Int32 × mx_D × mx_E), g_M_firstDrawn_7 F n l3 D E = some v → ev X (d + 1) 320 (7, [some (.ref 116), none, none, some (.int l3)], [], D, E) (qR (some (.int v.1)) v.2.1 v.2.2) := by
  intro n
  induction n with
  | zero => intro l3 D E v h; cases h
  | succ n ih => intro l3 D E v h; exact tb_M_firstDrawn_7 X F d hd (g_M_firstDrawn_7 F n) ih l3 D E v h
def g_M_firstDrawn (F : Nat) (a1 : Int64) (D : mx_D) (E : mx_E) : Option (Int32 × mx_D × mx_E) := (Option.bind (g_M_begins F a1 D E) (fun r1 => (g_M_firstDrawn_7 F F (nI 0) r1.1 r1.2)))
set_option maxRecDepth 100000 in
set_option maxHeartbeats 4000000 in
theorem t_M_firstDrawn (X : ev_X) (F : Nat) (d : Nat) (hd : 6 ≤ d + 1) (a1 : Int64) (D : mx_D) (E : mx_E) (v : Int32 × mx_D × mx_E) (h : g_M_firstDrawn F a1 D E = some v) : ev X (d + 1) 320 (0, [some (.ref 116), some (.long a1), none, none], [], D, E) (qR (some (.int v.1)) v.2.1 v.2.2) := by
  have hq : kq_m 320 = some kq_q320 := rfl
  unfold g_M_firstDrawn at h
  refine gv_n hq 2 (S' := (2, [some (.ref 116), some (.long a1), none, none], [.long a1, .ref 116], D, E)) rfl ?_
  obtain ⟨r1, h1, h⟩ := Option.bind_eq_some_iff.mp h
  refine gv_d hq rfl rfl rfl rfl rfl ((t_M_begins X F d _ _ _ _ h1)) (S' := (5, [some (.ref 116), some (.long a1), none, none], [], r1.1, r1.2)) rfl ?_
  refine gv_n hq 2 (S' := (7, [some (.ref 116), some (.long a1), none, some (.int (nI 0))], [], r1.1, r1.2)) rfl ?_
  exact gv_w (t_M_firstDrawn_7 X F d hd F _ _ _ _ h) (And.intro rfl (And.intro rfl trivial))
def g_M_drawn (F : Nat) (a1 : Int32) (D : mx_D) (E : mx_E) : Option (Int32 × mx_D × mx_E) := (if (g_M_isSeed a1) = 0 then (some ((-2 : Int32), D, E)) else (if (g_M_isChurch D) = 0 then (some ((-2 : Int32), D, E)) else (Option.bind (g_M_firstDrawn F ((a1).toInt64) D E) (fun r1 => (some (r1.1, r1.2.1, r1.2.2))))))
set_option maxRecDepth 100000 in
set_option maxHeartbeats 4000000 in
theorem t_M_drawn (X : ev_X) (F : Nat) (d : Nat) (hd : 7 ≤ d + 1) (a1 : Int32) (D : mx_D) (E : mx_E) (v : Int32 × mx_D × mx_E) (h : g_M_drawn F a1 D E = some v) : ev X (d + 1) 318 (0, [some (.ref 116), some (.int a1)], [], D, E) (qR (some (.int v.1)) v.2.1 v.2.2) := by
  have hq : kq_m 318 = some kq_q318 := rfl
  unfold g_M_drawn at h
  refine gv_n hq 1 (S' := (1, [some (.ref 116), some (.int a1)], [.int a1], D, E)) rfl ?_
  refine gv_d hq rfl rfl rfl rfl rfl (gv_dd (by omega) (t_M_isSeed X (d - 1) (by omega) D E _ _ rfl)) (S' := (4, [some (.ref 116), some (.int a1)], [.int (g_M_isSeed a1)], D, E)) rfl ?_
  refine gv_b hq rfl h 23 7 rfl rfl rfl (fun h => ?_) (fun h => ?_)
  · refine gv_n hq 1 (S' := (25, [some (.ref 116), some (.int a1)], [.int (-2 : Int32)], D, E)) rfl ?_
    cases h
    exact ev_ret hq rfl rfl ⟨rfl, rfl, rfl⟩
  · refine gv_n hq 1 (S' := (8, [some (.ref 116), some (.int a1)], [.ref 116], D, E)) rfl ?_
    refine gv_d hq rfl rfl rfl rfl rfl ((t_M_isChurch X d D E _ rfl)) (S' := (11, [some (.ref 116), some (.int a1)], [.int (g_M_isChurch D)], D, E)) rfl ?_
    refine gv_b hq rfl h 23 14 rfl rfl rfl (fun h => ?_) (fun h => ?_)
    · refine gv_n hq 1 (S' := (25, [some (.ref 116), some (.int a1)], [.int (-2 : Int32)], D, E)) rfl ?_
      cases h
      exact ev_ret hq rfl rfl ⟨rfl, rfl, rfl⟩
    · refine gv_n hq 3 (S' := (17, [some (.ref 116), some (.int a1)], [.long ((a1).toInt64), .ref 116], D, E)) rfl ?_
      obtain ⟨r1, h1, h⟩ := Option.bind_eq_some_iff.mp h
      refine gv_d hq rfl rfl rfl rfl rfl (gv_dd (by omega) (t_M_firstDrawn X F (d - 1) (by omega) _ _ _ _ h1)) (S' := (20, [some (.ref 116), some (.int a1)], [.int r1.1], r1.2.1, r1.2.2)) rfl ?_
      refine gv_n hq 1 (S' := (25, [some (.ref 116), some (.int a1)], [.int r1.1], r1.2.1, r1.2.2)) rfl ?_
      cases h
      exact ev_ret hq rfl rfl ⟨rfl, rfl, rfl⟩
def b_X_grown_48 (F : Nat) (k48 : Int32 → Int32 → Int64 → Int32 → mx_D → Option (Int32 × mx_D)) (l2 : Int32) (l3 : Int32) (l4 : Int64) (l6 : Int32) (D : mx_D) : Option (Int32 × mx_D) := (if l3 < l6 then (rk 8 l2 (some ((D 35 (l2).toNatClampNeg), D))) else (Option.bind (g_Heights_growByDraws F l4 (D 24 6) D) (fun r2 => (k48 l2 l3 r2.1 (l6 + (nI 1)) r2.2))))
set_option maxRecDepth 100000 in
set_option maxHeartbeats 4000000 in
theorem tb_X_grown_48 (X : ev_X) (F : Nat) (d : Nat) (hd : 5 ≤ d + 1) (E : mx_E) (k48 : Int32 → Int32 → Int64 → Int32 → mx_D → Option (Int32 × mx_D)) (K48 : ∀ (l2 : Int32) (l3 : Int32) (l4 : Int64) (l6 : Int32) (D : mx_D) (v : Int32 × mx_D), k48 l2 l3 l4 l6 D = some v → ev X (d + 1) 174 (48, [some (.ref 0), none, some (.int l2), some (.int l3), some (.long l4), none, some (.int l6)], [], D, E) (qR (some (.int v.1)) v.2 E)) (l2 : Int32) (l3 : Int32) (l4 : Int64) (l6 : Int32) (D : mx_D) (v : Int32 × mx_D) (h : b_X_grown_48 F k48 l2 l3 l4 l6 D = some v) : ev X (d + 1) 174 (48, [some (.ref 0), none, some (.int l2), some (.int l3), some (.long l4), none, some (.int l6)], [], D, E) (qR (some (.int v.1)) v.2 E) := by
  have hq : kq_m 174 = some kq_q174 := rfl
  unfold b_X_grown_48 at h
  refine gv_n hq 2 (S' := (51, [some (.ref 0), none, some (.int l2), some (.int l3), some (.long l4), none, some (.int l6)], [.int l3, .int l6], D, E)) rfl ?_
  refine gv_b hq rfl h 81 54 rfl rfl rfl (fun h => ?_) (fun h => ?_)
  · refine gv_n hq 4 (S' := (89, [some (.ref 0), none, some (.int l2), some (.int l3), some (.long l4), none, some (.int l6)], [.int l2, .ref 35], D, E)) rfl ?_
    refine gv_ia hq rfl rfl rfl h 90 rfl (fun h => ?_)
    cases h
    exact ev_ret hq rfl rfl ⟨rfl, rfl, rfl⟩
  · refine gv_n hq 7 (S' := (70, [some (.ref 0), none, some (.int l2), some (.int l3), some (.long l4), none, some (.int l6)], [.int (D 24 6), .long l4, .ref 34], D, E)) rfl ?_
    obtain ⟨r2, h1, h⟩ := Option.bind_eq_some_iff.mp h
    refine gv_d hq rfl rfl rfl rfl rfl ((t_Heights_growByDraws X F d E _ _ _ _ h1)) (S' := (73, [some (.ref 0), none, some (.int l2), some (.int l3), some (.long l4), none, some (.int l6)], [.long r2.1], r2.2, E)) rfl ?_
    refine gv_n hq 3 (S' := (48, [some (.ref 0), none, some (.int l2), some (.int l3), some (.long r2.1), none, some (.int (l6 + (nI 1)))], [], r2.2, E)) rfl ?_
    exact gv_w (K48 _ _ _ _ _ _ h) (And.intro rfl (And.intro rfl (And.intro rfl (And.intro rfl (And.intro rfl trivial)))))
def g_X_grown_48 (F : Nat) : Nat → Int32 → Int32 → Int64 → Int32 → mx_D → Option (Int32 × mx_D) := it (fun k48 => b_X_grown_48 F k48) (fun _ _ _ _ _ => none)
set_option maxRecDepth 100000 in
set_option maxHeartbeats 4000000 in
theorem t_X_grown_48 (X : ev_X) (F : Nat) (d : Nat) (hd : 5 ≤ d + 1) (E : mx_E)  : ∀ (n : Nat) (l2 : Int32) (l3 : Int32) (l4 : Int64) (l6 : Int32) (D : mx_D) (v : Int32 × mx_D), g_X_grown_48 F n l2 l3 l4 l6 D = some v → ev X (d + 1) 174 (48, [some (.ref 0), none, some (.int l2), some (.int l3), some (.long l4), none, some (.int l6)], [], D, E) (qR (some (.int v.1)) v.2 E) := by
  intro n
  induction n with
  | zero => intro l2 l3 l4 l6 D v h; cases h
  | succ n ih => intro l2 l3 l4 l6 D v h; exact tb_X_grown_48 X F d hd E (g_X_grown_48 F n) ih l2 l3 l4 l6 D v h
def g_X_grown (F : Nat) (a1 : Int32) (a2 : Int32) (a3 : Int32) (D : mx_D) : Option (Int32 × mx_D) := (if (g_X_isSeed a1) = 0 then (some ((-1000 : Int32), D)) else (if (g_Church_hasPerson D a2) = 0 then (some ((-1000 : Int32), D)) else (if (g_X_isYear a3) = 0 then (some ((-1000 : Int32), D)) else (Option.bind (g_Heights_take F (nI 0) D) (fun r1 => (g_X_grown_48 F F a2 a3 ((a1).toInt64) (nI 1) r1))))))
set_option maxRecDepth 100000 in
set_option maxHeartbeats 4000000 in
theorem t_X_grown (X : ev_X) (F : Nat) (d : Nat) (hd : 5 ≤ d + 1) (E : mx_E) (a1 : Int32) (a2 : Int32) (a3 : Int32) (D : mx_D) (v : Int32 × mx_D) (h : g_X_grown F a1 a2 a3 D = some v) : ev X (d + 1) 174 (0, [some (.ref 0), some (.int a1), some (.int a2), some (.int a3), none, none, none], [], D, E) (qR (some (.int v.1)) v.2 E) := by
  have hq : kq_m 174 = some kq_q174 := rfl
  unfold g_X_grown at h
  refine gv_n hq 1 (S' := (1, [some (.ref 0), some (.int a1), some (.int a2), some (.int a3), none, none, none], [.int a1], D, E)) rfl ?_
  refine gv_d hq rfl rfl rfl rfl rfl ((t_X_isSeed X d D E _ _ rfl)) (S' := (4, [some (.ref 0), some (.int a1), some (.int a2), some (.int a3), none, none, none], [.int (g_X_isSeed a1)], D, E)) rfl ?_
  refine gv_b hq rfl h 25 7 rfl rfl rfl (fun h => ?_) (fun h => ?_)
  · refine gv_n hq 1 (S' := (28, [some (.ref 0), some (.int a1), some (.int a2), some (.int a3), none, none, none], [.int (-1000 : Int32)], D, E)) rfl ?_
    cases h
    exact ev_ret hq rfl rfl ⟨rfl, rfl, rfl⟩
  · refine gv_n hq 3 (S' := (12, [some (.ref 0), some (.int a1), some (.int a2), some (.int a3), none, none, none], [.int a2, .ref 19], D, E)) rfl ?_
    refine gv_d hq rfl rfl rfl rfl rfl ((t_Church_hasPerson X d D E _ _ rfl)) (S' := (15, [some (.ref 0), some (.int a1), some (.int a2), some (.int a3), none, none, none], [.int (g_Church_hasPerson D a2)], D, E)) rfl ?_
    refine gv_b hq rfl h 25 18 rfl rfl rfl (fun h => ?_) (fun h => ?_)
    · refine gv_n hq 1 (S' := (28, [some (.ref 0), some (.int a1), some (.int a2), some (.int a3), none, none, none], [.int (-1000 : Int32)], D, E)) rfl ?_
      cases h
      exact ev_ret hq rfl rfl ⟨rfl, rfl, rfl⟩
    · refine gv_n hq 1 (S' := (19, [some (.ref 0), some (.int a1), some (.int a2), some (.int a3), none, none, none], [.int a3], D, E)) rfl ?_
      refine gv_d hq rfl rfl rfl rfl rfl ((t_X_isYear X d D E _ _ rfl)) (S' := (22, [some (.ref 0), some (.int a1), some (.int a2), some (.int a3), none, none, none], [.int (g_X_isYear a3)], D, E)) rfl ?_
      refine gv_b hq rfl h 25 29 rfl rfl rfl (fun h => ?_) (fun h => ?_)
      · refine gv_n hq 1 (S' := (28, [some (.ref 0), some (.int a1), some (.int a2), some (.int a3), none, none, none], [.int (-1000 : Int32)], D, E)) rfl ?_
        cases h
        exact ev_ret hq rfl rfl ⟨rfl, rfl, rfl⟩
      · refine gv_n hq 5 (S' := (38, [some (.ref 0), some (.int a1), some (.int a2), some (.int a3), none, none, none], [.int (nI 0), .ref 19, .ref 34], D, E)) rfl ?_
        obtain ⟨r1, h1, h⟩ := Option.bind_eq_some_iff.mp h
        refine gv_d hq rfl rfl rfl rfl rfl (gv_dd (by omega) (t_Heights_take X F (d - 1) (by omega) E _ _ _ h1)) (S' := (41, [some (.ref 0), some (.int a1), some (.int a2), some (.int a3), none, none, none], [], r1, E)) rfl ?_
        refine gv_n hq 5 (S' := (48, [some (.ref 0), some (.int a1), some (.int a2), some (.int a3), some (.long ((a1).toInt64)), none, some (.int (nI 1))], [], r1, E)) rfl ?_
        exact gv_w (t_X_grown_48 X F d hd E F _ _ _ _ _ _ h) (And.intro rfl (And.intro rfl (And.intro rfl (And.intro rfl (And.intro rfl trivial)))))
def b_M_grown_52 (F : Nat) (l2 : Int32) (D : mx_D) (E : mx_E) : Option (Int32 × mx_D × mx_E) := (Option.bind (g_M_highOf F D l2 (nI 0)) (fun r2 => (rk 8 l2 (some ((r2 + (D 136 (l2).toNatClampNeg)), D, E)))))
set_option maxRecDepth 100000 in
set_option maxHeartbeats 4000000 in
theorem tb_M_grown_52 (X : ev_X) (F : Nat) (d : Nat) (hd : 4 ≤ d + 1)  (l2 : Int32) (D : mx_D) (E : mx_E) (v : Int32 × mx_D × mx_E) (h : b_M_grown_52 F l2 D E = some v) : ev X (d + 1) 325 (52, [some (.ref 116), none, some (.int l2), none, none], [], D, E) (qR (some (.int v.1)) v.2.1 v.2.2) := by
  have hq : kq_m 325 = some kq_q325 := rfl
  unfold b_M_grown_52 at h
  refine gv_n hq 3 (S' := (55, [some (.ref 116), none, some (.int l2), none, none], [.int (nI 0), .int l2, .ref 116], D, E)) rfl ?_
  obtain ⟨r2, h1, h⟩ := Option.bind_eq_some_iff.mp h
  refine gv_d hq rfl rfl rfl rfl rfl (gv_dd (by omega) (t_M_highOf X F (d - 1) (by omega) D E _ _ _ h1)) (S' := (58, [some (.ref 116), none, some (.int l2), none, none], [.int r2], D, E)) rfl ?_
  refine gv_n hq 3 (S' := (63, [some (.ref 116), none, some (.int l2), none, none], [.int l2, .ref 136, .int r2], D, E)) rfl ?_
  refine gv_ia hq rfl rfl rfl h 64 rfl (fun h => ?_)
  refine gv_n hq 1 (S' := (65, [some (.ref 116), none, some (.int l2), none, none], [.int (r2 + (D 136 (l2).toNatClampNeg))], D, E)) rfl ?_
  cases h
  exact ev_ret hq rfl rfl ⟨rfl, rfl, rfl⟩
def b_M_grown_36 (F : Nat) (k36 : Int32 → Int32 → Int32 → mx_D → mx_E → Option (Int32 × mx_D × mx_E)) (l2 : Int32) (l3 : Int32) (l4 : Int32) (D : mx_D) (E : mx_E) : Option (Int32 × mx_D × mx_E) := (if l3 < l4 then (b_M_grown_52 F l2 D E) else (Option.bind (g_M_growsOn F D E) (fun r3 => (k36 l2 l3 (l4 + (nI 1)) r3.1 r3.2))))
set_option maxRecDepth 100000 in
set_option maxHeartbeats 4000000 in
theorem tb_M_grown_36 (X : ev_X) (F : Nat) (d : Nat) (hd : 4 ≤ d + 1) (k36 : Int32 → Int32 → Int32 → mx_D → mx_E → Option (Int32 × mx_D × mx_E)) (K36 : ∀ (l2 : Int32) (l3 : Int32) (l4 : Int32) (D : mx_D) (E : mx_E) (v : Int32 × mx_D × mx_E), k36 l2 l3 l4 D E = some v → ev X (d + 1) 325 (36, [some (.ref 116), none, some (.int l2), some (.int l3), some (.int l4)], [], D, E) (qR (some (.int v.1)) v.2.1 v.2.2)) (l2 : Int32) (l3 : Int32) (l4 : Int32) (D : mx_D) (E : mx_E) (v : Int32 × mx_D × mx_E) (h : b_M_grown_36 F k36 l2 l3 l4 D E = some v) : ev X (d + 1) 325 (36, [some (.ref 116), none, some (.int l2), some (.int l3), some (.int l4)], [], D, E) (qR (some (.int v.1)) v.2.1 v.2.2) := by
  have hq : kq_m 325 = some kq_q325 := rfl
  unfold b_M_grown_36 at h
  refine gv_n hq 2 (S' := (39, [some (.ref 116), none, some (.int l2), some (.int l3), some (.int l4)], [.int l3, .int l4], D, E)) rfl ?_
  refine gv_b hq rfl h 52 42 rfl rfl rfl (fun h => ?_) (fun h => ?_)
  · exact gv_w (tb_M_grown_52 X F d hd _ _ _ _ h) (And.intro rfl (And.intro rfl trivial))
  · refine gv_n hq 1 (S' := (43, [some (.ref 116), none, some (.int l2), some (.int l3), some (.int l4)], [.ref 116], D, E)) rfl ?_
    obtain ⟨r3, h1, h⟩ := Option.bind_eq_some_iff.mp h
    refine gv_d hq rfl rfl rfl rfl rfl (gv_dd (by omega) (t_M_growsOn X F (d - 1) (by omega) _ _ _ h1)) (S' := (46, [some (.ref 116), none, some (.int l2), some (.int l3), some (.int l4)], [], r3.1, r3.2)) rfl ?_
    refine gv_n hq 2 (S' := (36, [some (.ref 116), none, some (.int l2), some (.int l3), some (.int (l4 + (nI 1)))], [], r3.1, r3.2)) rfl ?_
    exact gv_w (K36 _ _ _ _ _ _ h) (And.intro rfl (And.intro rfl (And.intro rfl (And.intro rfl trivial))))
def g_M_grown_36 (F : Nat) : Nat → Int32 → Int32 → Int32 → mx_D → mx_E → Option (Int32 × mx_D × mx_E) := it (fun k36 => b_M_grown_36 F k36) (fun _ _ _ _ _ => none)
set_option maxRecDepth 100000 in
set_option maxHeartbeats 4000000 in
theorem t_M_grown_36 (X : ev_X) (F : Nat) (d : Nat) (hd : 4 ≤ d + 1)  : ∀ (n : Nat) (l2 : Int32) (l3 : Int32) (l4 : Int32) (D : mx_D) (E : mx_E) (v : Int32 × mx_D × mx_E), g_M_grown_36 F n l2 l3 l4 D E = some v → ev X (d + 1) 325 (36, [some (.ref 116), none, some (.int l2), some (.int l3), some (.int l4)], [], D, E) (qR (some (.int v.1)) v.2.1 v.2.2) := by
  intro n
  induction n with
  | zero => intro l2 l3 l4 D E v h; cases h
  | succ n ih => intro l2 l3 l4 D E v h; exact tb_M_grown_36 X F d hd (g_M_grown_36 F n) ih l2 l3 l4 D E v h
def g_M_grown (F : Nat) (a1 : Int32) (a2 : Int32) (a3 : Int32) (D : mx_D) (E : mx_E) : Option (Int32 × mx_D × mx_E) := (if (g_M_isSeed a1) = 0 then (some ((-1000 : Int32), D, E)) else (if (g_M_isPerson D a2) = 0 then (some ((-1000 : Int32), D, E)) else (if (g_M_isYear D a3) = 0 then (some ((-1000 : Int32), D, E)) else (Option.bind (g_M_begins F ((a1).toInt64) D E) (fun r1 => (g_M_grown_36 F F a2 a3 (nI 1) r1.1 r1.2))))))
set_option maxRecDepth 100000 in
set_option maxHeartbeats 4000000 in
theorem t_M_grown (X : ev_X) (F : Nat) (d : Nat) (hd : 4 ≤ d + 1) (a1 : Int32) (a2 : Int32) (a3 : Int32) (D : mx_D) (E : mx_E) (v : Int32 × mx_D × mx_E) (h : g_M_grown F a1 a2 a3 D E = some v) : ev X (d + 1) 325 (0, [some (.ref 116), some (.int a1), some (.int a2), some (.int a3), none], [], D, E) (qR (some (.int v.1)) v.2.1 v.2.2) := by
  have hq : kq_m 325 = some kq_q325 := rfl
  unfold g_M_grown at h
  refine gv_n hq 1 (S' := (1, [some (.ref 116), some (.int a1), some (.int a2), some (.int a3), none], [.int a1], D, E)) rfl ?_
  refine gv_d hq rfl rfl rfl rfl rfl (gv_dd (by omega) (t_M_isSeed X (d - 1) (by omega) D E _ _ rfl)) (S' := (4, [some (.ref 116), some (.int a1), some (.int a2), some (.int a3), none], [.int (g_M_isSeed a1)], D, E)) rfl ?_
  refine gv_b hq rfl h 23 7 rfl rfl rfl (fun h => ?_) (fun h => ?_)
  · refine gv_n hq 1 (S' := (26, [some (.ref 116), some (.int a1), some (.int a2), some (.int a3), none], [.int (-1000 : Int32)], D, E)) rfl ?_
    cases h
    exact ev_ret hq rfl rfl ⟨rfl, rfl, rfl⟩
  · refine gv_n hq 2 (S' := (9, [some (.ref 116), some (.int a1), some (.int a2), some (.int a3), none], [.int a2, .ref 116], D, E)) rfl ?_
    refine gv_d hq rfl rfl rfl rfl rfl (gv_dd (by omega) (t_M_isPerson X (d - 1) (by omega) D E _ _ rfl)) (S' := (12, [some (.ref 116), some (.int a1), some (.int a2), some (.int a3), none], [.int (g_M_isPerson D a2)], D, E)) rfl ?_
    refine gv_b hq rfl h 23 15 rfl rfl rfl (fun h => ?_) (fun h => ?_)
    · refine gv_n hq 1 (S' := (26, [some (.ref 116), some (.int a1), some (.int a2), some (.int a3), none], [.int (-1000 : Int32)], D, E)) rfl ?_
      cases h
      exact ev_ret hq rfl rfl ⟨rfl, rfl, rfl⟩
    · refine gv_n hq 2 (S' := (17, [some (.ref 116), some (.int a1), some (.int a2), some (.int a3), none], [.int a3, .ref 116], D, E)) rfl ?_
      refine gv_d hq rfl rfl rfl rfl rfl (gv_dd (by omega) (t_M_isYear X (d - 1) (by omega) D E _ _ rfl)) (S' := (20, [some (.ref 116), some (.int a1), some (.int a2), some (.int a3), none], [.int (g_M_isYear D a3)], D, E)) rfl ?_
      refine gv_b hq rfl h 23 27 rfl rfl rfl (fun h => ?_) (fun h => ?_)
      · refine gv_n hq 1 (S' := (26, [some (.ref 116), some (.int a1), some (.int a2), some (.int a3), none], [.int (-1000 : Int32)], D, E)) rfl ?_
        cases h
        exact ev_ret hq rfl rfl ⟨rfl, rfl, rfl⟩
      · refine gv_n hq 3 (S' := (30, [some (.ref 116), some (.int a1), some (.int a2), some (.int a3), none], [.long ((a1).toInt64), .ref 116], D, E)) rfl ?_
        obtain ⟨r1, h1, h⟩ := Option.bind_eq_some_iff.mp h
        refine gv_d hq rfl rfl rfl rfl rfl ((t_M_begins X F d _ _ _ _ h1)) (S' := (33, [some (.ref 116), some (.int a1), some (.int a2), some (.int a3), none], [], r1.1, r1.2)) rfl ?_
        refine gv_n hq 2 (S' := (36, [some (.ref 116), some (.int a1), some (.int a2), some (.int a3), some (.int (nI 1))], [], r1.1, r1.2)) rfl ?_
        exact gv_w (t_M_grown_36 X F d hd F _ _ _ _ _ _ h) (And.intro rfl (And.intro rfl (And.intro rfl (And.intro rfl trivial))))
def b_X_years_35 (F : Nat) (k35 : Int32 → Int32 → Int32 → Int32 → Int32 → mx_D → Option (Int32 × mx_D)) (l1 : Int32) (l2 : Int32) (l3 : Int32) (l4 : Int32) (l5 : Int32) (D : mx_D) : Option (Int32 × mx_D) := (if l2 ≤ l5 then (some (l4, D)) else (Option.bind (g_X_firstUnlevelDrawn F (((l1).toInt64) + ((l5).toInt64)) l3 D) (fun r1 => (if r1.1 = (-1 : Int32) then (k35 l1 l2 l3 (l4 + (nI 1)) (l5 + (nI 1)) r1.2) else (k35 l1 l2 l3 l4 (l5 + (nI 1)) r1.2)))))
set_option maxRecDepth 100000 in
set_option maxHeartbeats 4000000 in
theorem tb_X_years_35 (X : ev_X) (F : Nat) (d : Nat) (hd : 6 ≤ d + 1) (E : mx_E) (k35 : Int32 → Int32 → Int32 → Int32 → Int32 → mx_D → Option (Int32 × mx_D)) (K35 : ∀ (l1 : Int32) (l2 : Int32) (l3 : Int32) (l4 : Int32) (l5 : Int32) (D : mx_D) (v : Int32 × mx_D), k35 l1 l2 l3 l4 l5 D = some v → ev X (d + 1) 175 (35, [some (.ref 0), some (.int l1), some (.int l2), some (.int l3), some (.int l4), some (.int l5)], [], D, E) (qR (some (.int v.1)) v.2 E)) (l1 : Int32) (l2 : Int32) (l3 : Int32) (l4 : Int32) (l5 : Int32) (D : mx_D) (v : Int32 × mx_D) (h : b_X_years_35 F k35 l1 l2 l3 l4 l5 D = some v) : ev X (d + 1) 175 (35, [some (.ref 0), some (.int l1), some (.int l2), some (.int l3), some (.int l4), some (.int l5)], [], D, E) (qR (some (.int v.1)) v.2 E) := by
  have hq : kq_m 175 = some kq_q175 := rfl
  unfold b_X_years_35 at h
  refine gv_n hq 2 (S' := (38, [some (.ref 0), some (.int l1), some (.int l2), some (.int l3), some (.int l4), some (.int l5)], [.int l2, .int l5], D, E)) rfl ?_
  refine gv_b hq rfl h 65 41 rfl rfl rfl (fun h => ?_) (fun h => ?_)
  · refine gv_n hq 1 (S' := (67, [some (.ref 0), some (.int l1), some (.int l2), some (.int l3), some (.int l4), some (.int l5)], [.int l4], D, E)) rfl ?_
    cases h
    exact ev_ret hq rfl rfl ⟨rfl, rfl, rfl⟩
  · refine gv_n hq 7 (S' := (49, [some (.ref 0), some (.int l1), some (.int l2), some (.int l3), some (.int l4), some (.int l5)], [.int l3, .long (((l1).toInt64) + ((l5).toInt64)), .ref 0], D, E)) rfl ?_
    obtain ⟨r1, h1, h⟩ := Option.bind_eq_some_iff.mp h
    refine gv_d hq rfl rfl rfl rfl rfl (gv_dd (by omega) (t_X_firstUnlevelDrawn X F (d - 1) (by omega) E _ _ _ _ h1)) (S' := (52, [some (.ref 0), some (.int l1), some (.int l2), some (.int l3), some (.int l4), some (.int l5)], [.int r1.1], r1.2, E)) rfl ?_
    refine gv_n hq 1 (S' := (53, [some (.ref 0), some (.int l1), some (.int l2), some (.int l3), some (.int l4), some (.int l5)], [.int (-1 : Int32), .int r1.1], r1.2, E)) rfl ?_
    refine gv_b hq rfl h 56 59 rfl rfl rfl (fun h => ?_) (fun h => ?_)
    · refine gv_n hq 3 (S' := (35, [some (.ref 0), some (.int l1), some (.int l2), some (.int l3), some (.int (l4 + (nI 1))), some (.int (l5 + (nI 1)))], [], r1.2, E)) rfl ?_
      exact gv_w (K35 _ _ _ _ _ _ _ h) (And.intro rfl (And.intro rfl (And.intro rfl (And.intro rfl (And.intro rfl (And.intro rfl trivial))))))
    · refine gv_n hq 2 (S' := (35, [some (.ref 0), some (.int l1), some (.int l2), some (.int l3), some (.int l4), some (.int (l5 + (nI 1)))], [], r1.2, E)) rfl ?_
      exact gv_w (K35 _ _ _ _ _ _ _ h) (And.intro rfl (And.intro rfl (And.intro rfl (And.intro rfl (And.intro rfl (And.intro rfl trivial))))))
def g_X_years_35 (F : Nat) : Nat → Int32 → Int32 → Int32 → Int32 → Int32 → mx_D → Option (Int32 × mx_D) := it (fun k35 => b_X_years_35 F k35) (fun _ _ _ _ _ _ => none)
set_option maxRecDepth 100000 in
set_option maxHeartbeats 4000000 in
theorem t_X_years_35 (X : ev_X) (F : Nat) (d : Nat) (hd : 6 ≤ d + 1) (E : mx_E)  : ∀ (n : Nat) (l1 : Int32) (l2 : Int32) (l3 : Int32) (l4 : Int32) (l5 : Int32) (D : mx_D) (v : Int32 × mx_D), g_X_years_35 F n l1 l2 l3 l4 l5 D = some v → ev X (d + 1) 175 (35, [some (.ref 0), some (.int l1), some (.int l2), some (.int l3), some (.int l4), some (.int l5)], [], D, E) (qR (some (.int v.1)) v.2 E) := by
  intro n
  induction n with
  | zero => intro l1 l2 l3 l4 l5 D v h; cases h
  | succ n ih => intro l1 l2 l3 l4 l5 D v h; exact tb_X_years_35 X F d hd E (g_X_years_35 F n) ih l1 l2 l3 l4 l5 D v h
def g_X_years (F : Nat) (a1 : Int32) (a2 : Int32) (a3 : Int32) (D : mx_D) : Option (Int32 × mx_D) := (if (g_X_canAsk D a3) = 0 then (some ((-2 : Int32), D)) else (if (g_X_isSeed a1) = 0 then (some ((-2 : Int32), D)) else (if a2 < (nI 1) then (some ((-2 : Int32), D)) else (if a2 ≤ (nI 20) then (g_X_years_35 F F a1 a2 a3 (nI 0) (nI 0) D) else (some ((-2 : Int32), D))))))
set_option maxRecDepth 100000 in
set_option maxHeartbeats 4000000 in
theorem t_X_years (X : ev_X) (F : Nat) (d : Nat) (hd : 6 ≤ d + 1) (E : mx_E) (a1 : Int32) (a2 : Int32) (a3 : Int32) (D : mx_D) (v : Int32 × mx_D) (h : g_X_years F a1 a2 a3 D = some v) : ev X (d + 1) 175 (0, [some (.ref 0), some (.int a1), some (.int a2), some (.int a3), none, none], [], D, E) (qR (some (.int v.1)) v.2 E) := by
  have hq : kq_m 175 = some kq_q175 := rfl
  unfold g_X_years at h
  refine gv_n hq 2 (S' := (2, [some (.ref 0), some (.int a1), some (.int a2), some (.int a3), none, none], [.int a3, .ref 0], D, E)) rfl ?_
  refine gv_d hq rfl rfl rfl rfl rfl (gv_dd (by omega) (t_X_canAsk X (d - 1) (by omega) D E _ _ rfl)) (S' := (5, [some (.ref 0), some (.int a1), some (.int a2), some (.int a3), none, none], [.int (g_X_canAsk D a3)], D, E)) rfl ?_
  refine gv_b hq rfl h 26 8 rfl rfl rfl (fun h => ?_) (fun h => ?_)
  · refine gv_n hq 1 (S' := (28, [some (.ref 0), some (.int a1), some (.int a2), some (.int a3), none, none], [.int (-2 : Int32)], D, E)) rfl ?_
    cases h
    exact ev_ret hq rfl rfl ⟨rfl, rfl, rfl⟩
  · refine gv_n hq 1 (S' := (9, [some (.ref 0), some (.int a1), some (.int a2), some (.int a3), none, none], [.int a1], D, E)) rfl ?_
    refine gv_d hq rfl rfl rfl rfl rfl ((t_X_isSeed X d D E _ _ rfl)) (S' := (12, [some (.ref 0), some (.int a1), some (.int a2), some (.int a3), none, none], [.int (g_X_isSeed a1)], D, E)) rfl ?_
    refine gv_b hq rfl h 26 15 rfl rfl rfl (fun h => ?_) (fun h => ?_)
    · refine gv_n hq 1 (S' := (28, [some (.ref 0), some (.int a1), some (.int a2), some (.int a3), none, none], [.int (-2 : Int32)], D, E)) rfl ?_
      cases h
      exact ev_ret hq rfl rfl ⟨rfl, rfl, rfl⟩
    · refine gv_n hq 2 (S' := (17, [some (.ref 0), some (.int a1), some (.int a2), some (.int a3), none, none], [.int (nI 1), .int a2], D, E)) rfl ?_
      refine gv_b hq rfl h 26 20 rfl rfl rfl (fun h => ?_) (fun h => ?_)
      · refine gv_n hq 1 (S' := (28, [some (.ref 0), some (.int a1), some (.int a2), some (.int a3), none, none], [.int (-2 : Int32)], D, E)) rfl ?_
        cases h
        exact ev_ret hq rfl rfl ⟨rfl, rfl, rfl⟩
      · refine gv_n hq 2 (S' := (23, [some (.ref 0), some (.int a1), some (.int a2), some (.int a3), none, none], [.int (nI 20), .int a2], D, E)) rfl ?_
        refine gv_b hq rfl h 29 26 rfl rfl rfl (fun h => ?_) (fun h => ?_)
        · refine gv_n hq 4 (S' := (35, [some (.ref 0), some (.int a1), some (.int a2), some (.int a3), some (.int (nI 0)), some (.int (nI 0))], [], D, E)) rfl ?_
          exact gv_w (t_X_years_35 X F d hd E F _ _ _ _ _ _ _ h) (And.intro rfl (And.intro rfl (And.intro rfl (And.intro rfl (And.intro rfl (And.intro rfl trivial))))))
        · refine gv_n hq 1 (S' := (28, [some (.ref 0), some (.int a1), some (.int a2), some (.int a3), none, none], [.int (-2 : Int32)], D, E)) rfl ?_
          cases h
          exact ev_ret hq rfl rfl ⟨rfl, rfl, rfl⟩
def b_M_years_36 (F : Nat) (k36 : Int32 → Int32 → Int32 → Int32 → Int32 → mx_D → mx_E → Option (Int32 × mx_D × mx_E)) (l1 : Int32) (l2 : Int32) (l3 : Int32) (l4 : Int32) (l5 : Int32) (D : mx_D) (E : mx_E) : Option (Int32 × mx_D × mx_E) := (if l2 ≤ l5 then (some (l4, D, E)) else (Option.bind (g_M_firstDrawn F (((l1).toInt64) + ((l5).toInt64)) D E) (fun r1 => (if r1.1 = (-1 : Int32) then (k36 l1 l2 l3 (l4 + (nI 1)) (l5 + (nI 1)) r1.2.1 r1.2.2) else (if r1.1 ≤ l3 then (k36 l1 l2 l3 (l4 + (nI 0)) (l5 + (nI 1)) r1.2.1 r1.2.2) else (k36 l1 l2 l3 (l4 + (nI 1)) (l5 + (nI 1)) r1.2.1 r1.2.2))))))
set_option maxRecDepth 100000 in
set_option maxHeartbeats 4000000 in
theorem tb_M_years_36 (X : ev_X) (F : Nat) (d : Nat) (hd : 7 ≤ d + 1) (k36 : Int32 → Int32 → Int32 → Int32 → Int32 → mx_D → mx_E → Option (Int32 × mx_D × mx_E)) (K36 : ∀ (l1 : Int32) (l2 : Int32) (l3 : Int32) (l4 : Int32) (l5 : Int32) (D : mx_D) (E : mx_E) (v : Int32 × mx_D × mx_E), k36 l1 l2 l3 l4 l5 D E = some v → ev X (d + 1) 326 (36, [some (.ref 116), some (.int l1), some (.int l2), some (.int l3), some (.int l4), some (.int l5), none], [], D, E) (qR (some (.int v.1)) v.2.1 v.2.2)) (l1 : Int32) (l2 : Int32) (l3 : Int32) (l4 : Int32) (l5 : Int32) (D : mx_D) (E : mx_E) (v : Int32 × mx_D × mx_E) (h : b_M_years_36 F k36 l1 l2 l3 l4 l5 D E = some v) : ev X (d + 1) 326 (36, [some (.ref 116), some (.int l1), some (.int l2), some (.int l3), some (.int l4), some (.int l5), none], [], D, E) (qR (some (.int v.1)) v.2.1 v.2.2) := by
  have hq : kq_m 326 = some kq_q326 := rfl
  unfold b_M_years_36 at h
  refine gv_n hq 2 (S' := (39, [some (.ref 116), some (.int l1), some (.int l2), some (.int l3), some (.int l4), some (.int l5), none], [.int l2, .int l5], D, E)) rfl ?_
  refine gv_b hq rfl h 82 42 rfl rfl rfl (fun h => ?_) (fun h => ?_)
  · refine gv_n hq 1 (S' := (84, [some (.ref 116), some (.int l1), some (.int l2), some (.int l3), some (.int l4), some (.int l5), none], [.int l4], D, E)) rfl ?_
    cases h
    exact ev_ret hq rfl rfl ⟨rfl, rfl, rfl⟩
  · refine gv_n hq 6 (S' := (49, [some (.ref 116), some (.int l1), some (.int l2), some (.int l3), some (.int l4), some (.int l5), none], [.long (((l1).toInt64) + ((l5).toInt64)), .ref 116], D, E)) rfl ?_
    obtain ⟨r1, h1, h⟩ := Option.bind_eq_some_iff.mp h
    refine gv_d hq rfl rfl rfl rfl rfl (gv_dd (by omega) (t_M_firstDrawn X F (d - 1) (by omega) _ _ _ _ h1)) (S' := (52, [some (.ref 116), some (.int l1), some (.int l2), some (.int l3), some (.int l4), some (.int l5), none], [.int r1.1], r1.2.1, r1.2.2)) rfl ?_
    refine gv_n hq 4 (S' := (59, [some (.ref 116), some (.int l1), some (.int l2), some (.int l3), some (.int l4), some (.int l5), some (.int r1.1)], [.int (-1 : Int32), .int r1.1, .int l4], r1.2.1, r1.2.2)) rfl ?_
    refine gv_b hq rfl h 68 62 rfl rfl rfl (fun h => ?_) (fun h => ?_)
    · refine gv_n hq 6 (S' := (36, [some (.ref 116), some (.int l1), some (.int l2), some (.int l3), some (.int (l4 + (nI 1))), some (.int (l5 + (nI 1))), some (.int r1.1)], [], r1.2.1, r1.2.2)) rfl ?_
      exact gv_w (K36 _ _ _ _ _ _ _ _ h) (And.intro rfl (And.intro rfl (And.intro rfl (And.intro rfl (And.intro rfl (And.intro rfl trivial))))))
    · refine gv_n hq 2 (S' := (65, [some (.ref 116), some (.int l1), some (.int l2), some (.int l3), some (.int l4), some (.int l5), some (.int r1.1)], [.int l3, .int r1.1, .int l4], r1.2.1, r1.2.2)) rfl ?_
      refine gv_b hq rfl h 72 68 rfl rfl rfl (fun h => ?_) (fun h => ?_)
      · refine gv_n hq 5 (S' := (36, [some (.ref 116), some (.int l1), some (.int l2), some (.int l3), some (.int (l4 + (nI 0))), some (.int (l5 + (nI 1))), some (.int r1.1)], [], r1.2.1, r1.2.2)) rfl ?_
        exact gv_w (K36 _ _ _ _ _ _ _ _ h) (And.intro rfl (And.intro rfl (And.intro rfl (And.intro rfl (And.intro rfl (And.intro rfl trivial))))))
      · refine gv_n hq 6 (S' := (36, [some (.ref 116), some (.int l1), some (.int l2), some (.int l3), some (.int (l4 + (nI 1))), some (.int (l5 + (nI 1))), some (.int r1.1)], [], r1.2.1, r1.2.2)) rfl ?_
        exact gv_w (K36 _ _ _ _ _ _ _ _ h) (And.intro rfl (And.intro rfl (And.intro rfl (And.intro rfl (And.intro rfl (And.intro rfl trivial))))))
def g_M_years_36 (F : Nat) : Nat → Int32 → Int32 → Int32 → Int32 → Int32 → mx_D → mx_E → Option (Int32 × mx_D × mx_E) := it (fun k36 => b_M_years_36 F k36) (fun _ _ _ _ _ _ _ => none)
set_option maxRecDepth 100000 in
set_option maxHeartbeats 4000000 in
theorem t_M_years_36 (X : ev_X) (F : Nat) (d : Nat) (hd : 7 ≤ d + 1)  : ∀ (n : Nat) (l1 : Int32) (l2 : Int32) (l3 : Int32) (l4 : Int32) (l5 : Int32) (D : mx_D) (E : mx_E) (v : Int32 × mx_D × mx_E), g_M_years_36 F n l1 l2 l3 l4 l5 D E = some v → ev X (d + 1) 326 (36, [some (.ref 116), some (.int l1), some (.int l2), some (.int l3), some (.int l4), some (.int l5), none], [], D, E) (qR (some (.int v.1)) v.2.1 v.2.2) := by
  intro n
  induction n with
  | zero => intro l1 l2 l3 l4 l5 D E v h; cases h
  | succ n ih => intro l1 l2 l3 l4 l5 D E v h; exact tb_M_years_36 X F d hd (g_M_years_36 F n) ih l1 l2 l3 l4 l5 D E v h
def g_M_years (F : Nat) (a1 : Int32) (a2 : Int32) (a3 : Int32) (D : mx_D) (E : mx_E) : Option (Int32 × mx_D × mx_E) := (if (g_M_isSeed a1) = 0 then (some ((-2 : Int32), D, E)) else (if (g_M_in ((a2).toInt64) (lN 1) (20 : Int64)) = 0 then (some ((-2 : Int32), D, E)) else (if (g_M_isYear D a3) = 0 then (some ((-2 : Int32), D, E)) else (g_M_years_36 F F a1 a2 a3 (nI 0) (nI 0) D E))))
set_option maxRecDepth 100000 in
set_option maxHeartbeats 4000000 in
theorem t_M_years (X : ev_X) (F : Nat) (d : Nat) (hd : 7 ≤ d + 1) (a1 : Int32) (a2 : Int32) (a3 : Int32) (D : mx_D) (E : mx_E) (v : Int32 × mx_D × mx_E) (h : g_M_years F a1 a2 a3 D E = some v) : ev X (d + 1) 326 (0, [some (.ref 116), some (.int a1), some (.int a2), some (.int a3), none, none, none], [], D, E) (qR (some (.int v.1)) v.2.1 v.2.2) := by
  have hq : kq_m 326 = some kq_q326 := rfl
  unfold g_M_years at h
  refine gv_n hq 1 (S' := (1, [some (.ref 116), some (.int a1), some (.int a2), some (.int a3), none, none, none], [.int a1], D, E)) rfl ?_
  refine gv_d hq rfl rfl rfl rfl rfl (gv_dd (by omega) (t_M_isSeed X (d - 1) (by omega) D E _ _ rfl)) (S' := (4, [some (.ref 116), some (.int a1), some (.int a2), some (.int a3), none, none, none], [.int (g_M_isSeed a1)], D, E)) rfl ?_
  refine gv_b hq rfl h 27 7 rfl rfl rfl (fun h => ?_) (fun h => ?_)
  · refine gv_n hq 1 (S' := (29, [some (.ref 116), some (.int a1), some (.int a2), some (.int a3), none, none, none], [.int (-2 : Int32)], D, E)) rfl ?_
    cases h
    exact ev_ret hq rfl rfl ⟨rfl, rfl, rfl⟩
  · refine gv_n hq 4 (S' := (13, [some (.ref 116), some (.int a1), some (.int a2), some (.int a3), none, none, none], [.long (20 : Int64), .long (lN 1), .long ((a2).toInt64)], D, E)) rfl ?_
    refine gv_d hq rfl rfl rfl rfl rfl ((t_M_in X d D E _ _ _ _ rfl)) (S' := (16, [some (.ref 116), some (.int a1), some (.int a2), some (.int a3), none, none, none], [.int (g_M_in ((a2).toInt64) (lN 1) (20 : Int64))], D, E)) rfl ?_
    refine gv_b hq rfl h 27 19 rfl rfl rfl (fun h => ?_) (fun h => ?_)
    · refine gv_n hq 1 (S' := (29, [some (.ref 116), some (.int a1), some (.int a2), some (.int a3), none, none, none], [.int (-2 : Int32)], D, E)) rfl ?_
      cases h
      exact ev_ret hq rfl rfl ⟨rfl, rfl, rfl⟩
    · refine gv_n hq 2 (S' := (21, [some (.ref 116), some (.int a1), some (.int a2), some (.int a3), none, none, none], [.int a3, .ref 116], D, E)) rfl ?_
      refine gv_d hq rfl rfl rfl rfl rfl (gv_dd (by omega) (t_M_isYear X (d - 1) (by omega) D E _ _ rfl)) (S' := (24, [some (.ref 116), some (.int a1), some (.int a2), some (.int a3), none, none, none], [.int (g_M_isYear D a3)], D, E)) rfl ?_
      refine gv_b hq rfl h 27 30 rfl rfl rfl (fun h => ?_) (fun h => ?_)
      · refine gv_n hq 1 (S' := (29, [some (.ref 116), some (.int a1), some (.int a2), some (.int a3), none, none, none], [.int (-2 : Int32)], D, E)) rfl ?_
        cases h
        exact ev_ret hq rfl rfl ⟨rfl, rfl, rfl⟩
      · refine gv_n hq 4 (S' := (36, [some (.ref 116), some (.int a1), some (.int a2), some (.int a3), some (.int (nI 0)), some (.int (nI 0)), none], [], D, E)) rfl ?_
        exact gv_w (t_M_years_36 X F d hd F _ _ _ _ _ _ _ _ h) (And.intro rfl (And.intro rfl (And.intro rfl (And.intro rfl (And.intro rfl (And.intro rfl trivial))))))
def b_Church_sawnTogether_4 (F : Nat) (D : mx_D) (k4 : Int32 → Int32 → Option (Int32)) (l1 : Int32) (l2 : Int32) : Option (Int32) := (if (D 19 0) ≤ l2 then (some l1) else (rk 4 l2 (k4 (l1 + (D 22 (l2).toNatClampNeg)) (l2 + (nI 1)))))
set_option maxRecDepth 100000 in
set_option maxHeartbeats 4000000 in
theorem tb_Church_sawnTogether_4 (X : ev_X) (F : Nat) (d : Nat) (D : mx_D) (E : mx_E) (k4 : Int32 → Int32 → Option (Int32)) (K4 : ∀ (l1 : Int32) (l2 : Int32) (v : Int32), k4 l1 l2 = some v → ev X d 23 (4, [some (.ref 19), some (.int l1), some (.int l2)], [], D, E) (qR (some (.int v)) D E)) (l1 : Int32) (l2 : Int32) (v : Int32) (h : b_Church_sawnTogether_4 F D k4 l1 l2 = some v) : ev X d 23 (4, [some (.ref 19), some (.int l1), some (.int l2)], [], D, E) (qR (some (.int v)) D E) := by
  have hq : kq_m 23 = some kq_q23 := rfl
  unfold b_Church_sawnTogether_4 at h
  refine gv_n hq 3 (S' := (9, [some (.ref 19), some (.int l1), some (.int l2)], [.int (D 19 0), .int l2], D, E)) rfl ?_
  refine gv_b hq rfl h 27 12 rfl rfl rfl (fun h => ?_) (fun h => ?_)
  · refine gv_n hq 1 (S' := (28, [some (.ref 19), some (.int l1), some (.int l2)], [.int l1], D, E)) rfl ?_
    cases h
    exact ev_ret hq rfl rfl ⟨rfl, rfl, rfl⟩
  · refine gv_n hq 4 (S' := (18, [some (.ref 19), some (.int l1), some (.int l2)], [.int l2, .ref 22, .int l1], D, E)) rfl ?_
    refine gv_ia hq rfl rfl rfl h 19 rfl (fun h => ?_)
    refine gv_n hq 4 (S' := (4, [some (.ref 19), some (.int (l1 + (D 22 (l2).toNatClampNeg))), some (.int (l2 + (nI 1)))], [], D, E)) rfl ?_
    exact gv_w (K4 _ _ _ h) (And.intro rfl (And.intro rfl (And.intro rfl trivial)))
def g_Church_sawnTogether_4 (F : Nat) (D : mx_D) : Nat → Int32 → Int32 → Option (Int32) := it (fun k4 => b_Church_sawnTogether_4 F D k4) (fun _ _ => none)
set_option maxRecDepth 100000 in
set_option maxHeartbeats 4000000 in
theorem t_Church_sawnTogether_4 (X : ev_X) (F : Nat) (d : Nat) (D : mx_D) (E : mx_E)  : ∀ (n : Nat) (l1 : Int32) (l2 : Int32) (v : Int32), g_Church_sawnTogether_4 F D n l1 l2 = some v → ev X d 23 (4, [some (.ref 19), some (.int l1), some (.int l2)], [], D, E) (qR (some (.int v)) D E) := by
  intro n
  induction n with
  | zero => intro l1 l2 v h; cases h
  | succ n ih => intro l1 l2 v h; exact tb_Church_sawnTogether_4 X F d D E (g_Church_sawnTogether_4 F D n) ih l1 l2 v h
def g_Church_sawnTogether (F : Nat) (D : mx_D) : Option (Int32) := (g_Church_sawnTogether_4 F D F (nI 0) (nI 0))
set_option maxRecDepth 100000 in
set_option maxHeartbeats 4000000 in
theorem t_Church_sawnTogether (X : ev_X) (F : Nat) (d : Nat) (D : mx_D) (E : mx_E) (v : Int32) (h : g_Church_sawnTogether F D = some v) : ev X d 23 (0, [some (.ref 19), none, none], [], D, E) (qR (some (.int v)) D E) := by
  have hq : kq_m 23 = some kq_q23 := rfl
  unfold g_Church_sawnTogether at h
  refine gv_n hq 4 (S' := (4, [some (.ref 19), some (.int (nI 0)), some (.int (nI 0))], [], D, E)) rfl ?_
  exact gv_w (t_Church_sawnTogether_4 X F d D E F _ _ _ h) (And.intro rfl (And.intro rfl (And.intro rfl trivial)))
def b_X_slotsWithRow_4 (F : Nat) (D : mx_D) (k4 : Int32 → Int32 → Option (Int32)) (l1 : Int32) (l2 : Int32) : Option (Int32) := (if (nI 4) ≤ l2 then (some l1) else (if l2 = (nI 0) then (if (D 108 1) = 0 then (k4 (l1 + (nI 0)) (l2 + (nI 1))) else (k4 (l1 + (nI 1)) (l2 + (nI 1)))) else (if l2 = (nI 1) then (if (D 110 1) = 0 then (k4 (l1 + (nI 0)) (l2 + (nI 1))) else (k4 (l1 + (nI 1)) (l2 + (nI 1)))) else (if l2 = (nI 2) then (if (D 112 1) = 0 then (k4 (l1 + (nI 0)) (l2 + (nI 1))) else (k4 (l1 + (nI 1)) (l2 + (nI 1)))) else (if l2 = (nI 3) then (if (D 114 1) = 0 then (k4 (l1 + (nI 0)) (l2 + (nI 1))) else (k4 (l1 + (nI 1)) (l2 + (nI 1)))) else none)))))
set_option maxRecDepth 100000 in
set_option maxHeartbeats 4000000 in
theorem tb_X_slotsWithRow_4 (X : ev_X) (F : Nat) (d : Nat) (D : mx_D) (E : mx_E) (k4 : Int32 → Int32 → Option (Int32)) (K4 : ∀ (l1 : Int32) (l2 : Int32) (v : Int32), k4 l1 l2 = some v → ev X d 115 (4, [some (.ref 0), some (.int l1), some (.int l2)], [], D, E) (qR (some (.int v)) D E)) (l1 : Int32) (l2 : Int32) (v : Int32) (h : b_X_slotsWithRow_4 F D k4 l1 l2 = some v) : ev X d 115 (4, [some (.ref 0), some (.int l1), some (.int l2)], [], D, E) (qR (some (.int v)) D E) := by
  have hq : kq_m 115 = some kq_q115 := rfl
  unfold b_X_slotsWithRow_4 at h
  refine gv_n hq 2 (S' := (6, [some (.ref 0), some (.int l1), some (.int l2)], [.int (nI 4), .int l2], D, E)) rfl ?_
  refine gv_b hq rfl h 35 9 rfl rfl rfl (fun h => ?_) (fun h => ?_)
  · refine gv_n hq 1 (S' := (36, [some (.ref 0), some (.int l1), some (.int l2)], [.int l1], D, E)) rfl ?_
    cases h
    exact ev_ret hq rfl rfl ⟨rfl, rfl, rfl⟩
  · refine gv_n hq 4 (S' := (15, [some (.ref 0), some (.int l1), some (.int l2)], [.int l2, .ref 62, .int l1], D, E)) rfl ?_
    refine gv_if h (fun c0 h => ?_) (fun c0 h => ?_)
    · refine ev_ins hq rfl (S' := (16, [some (.ref 0), some (.int l1), some (.int l2)], [.ref 108, .int l1], D, E)) (gv_sw (fun z => ((15, [some (.ref 0), some (.int l1), some (.int l2)], .int z :: [.ref 62, .int l1], D, E) : mx_S)) c0 rfl) ?_
      refine gv_n hq 1 (S' := (19, [some (.ref 0), some (.int l1), some (.int l2)], [.int (D 108 1), .int l1], D, E)) rfl ?_
      refine gv_b hq rfl h 26 22 rfl rfl rfl (fun h => ?_) (fun h => ?_)
      · refine gv_n hq 5 (S' := (4, [some (.ref 0), some (.int (l1 + (nI 0))), some (.int (l2 + (nI 1)))], [], D, E)) rfl ?_
        exact gv_w (K4 _ _ _ h) (And.intro rfl (And.intro rfl (And.intro rfl trivial)))
      · refine gv_n hq 6 (S' := (4, [some (.ref 0), some (.int (l1 + (nI 1))), some (.int (l2 + (nI 1)))], [], D, E)) rfl ?_
        exact gv_w (K4 _ _ _ h) (And.intro rfl (And.intro rfl (And.intro rfl trivial)))
    · refine gv_if h (fun c1 h => ?_) (fun c1 h => ?_)
      · refine ev_ins hq rfl (S' := (16, [some (.ref 0), some (.int l1), some (.int l2)], [.ref 110, .int l1], D, E)) (gv_sw (fun z => ((15, [some (.ref 0), some (.int l1), some (.int l2)], .int z :: [.ref 62, .int l1], D, E) : mx_S)) c1 rfl) ?_
        refine gv_n hq 1 (S' := (19, [some (.ref 0), some (.int l1), some (.int l2)], [.int (D 110 1), .int l1], D, E)) rfl ?_
        refine gv_b hq rfl h 26 22 rfl rfl rfl (fun h => ?_) (fun h => ?_)
        · refine gv_n hq 5 (S' := (4, [some (.ref 0), some (.int (l1 + (nI 0))), some (.int (l2 + (nI 1)))], [], D, E)) rfl ?_
          exact gv_w (K4 _ _ _ h) (And.intro rfl (And.intro rfl (And.intro rfl trivial)))
        · refine gv_n hq 6 (S' := (4, [some (.ref 0), some (.int (l1 + (nI 1))), some (.int (l2 + (nI 1)))], [], D, E)) rfl ?_
          exact gv_w (K4 _ _ _ h) (And.intro rfl (And.intro rfl (And.intro rfl trivial)))
      · refine gv_if h (fun c2 h => ?_) (fun c2 h => ?_)
        · refine ev_ins hq rfl (S' := (16, [some (.ref 0), some (.int l1), some (.int l2)], [.ref 112, .int l1], D, E)) (gv_sw (fun z => ((15, [some (.ref 0), some (.int l1), some (.int l2)], .int z :: [.ref 62, .int l1], D, E) : mx_S)) c2 rfl) ?_
          refine gv_n hq 1 (S' := (19, [some (.ref 0), some (.int l1), some (.int l2)], [.int (D 112 1), .int l1], D, E)) rfl ?_
          refine gv_b hq rfl h 26 22 rfl rfl rfl (fun h => ?_) (fun h => ?_)
          · refine gv_n hq 5 (S' := (4, [some (.ref 0), some (.int (l1 + (nI 0))), some (.int (l2 + (nI 1)))], [], D, E)) rfl ?_
            exact gv_w (K4 _ _ _ h) (And.intro rfl (And.intro rfl (And.intro rfl trivial)))
          · refine gv_n hq 6 (S' := (4, [some (.ref 0), some (.int (l1 + (nI 1))), some (.int (l2 + (nI 1)))], [], D, E)) rfl ?_
            exact gv_w (K4 _ _ _ h) (And.intro rfl (And.intro rfl (And.intro rfl trivial)))
        · refine gv_if h (fun c3 h => ?_) (fun c3 h => ?_)
          · refine ev_ins hq rfl (S' := (16, [some (.ref 0), some (.int l1), some (.int l2)], [.ref 114, .int l1], D, E)) (gv_sw (fun z => ((15, [some (.ref 0), some (.int l1), some (.int l2)], .int z :: [.ref 62, .int l1], D, E) : mx_S)) c3 rfl) ?_
            refine gv_n hq 1 (S' := (19, [some (.ref 0), some (.int l1), some (.int l2)], [.int (D 114 1), .int l1], D, E)) rfl ?_
            refine gv_b hq rfl h 26 22 rfl rfl rfl (fun h => ?_) (fun h => ?_)
            · refine gv_n hq 5 (S' := (4, [some (.ref 0), some (.int (l1 + (nI 0))), some (.int (l2 + (nI 1)))], [], D, E)) rfl ?_
              exact gv_w (K4 _ _ _ h) (And.intro rfl (And.intro rfl (And.intro rfl trivial)))
            · refine gv_n hq 6 (S' := (4, [some (.ref 0), some (.int (l1 + (nI 1))), some (.int (l2 + (nI 1)))], [], D, E)) rfl ?_
              exact gv_w (K4 _ _ _ h) (And.intro rfl (And.intro rfl (And.intro rfl trivial)))
          · cases h
def g_X_slotsWithRow_4 (F : Nat) (D : mx_D) : Nat → Int32 → Int32 → Option (Int32) := it (fun k4 => b_X_slotsWithRow_4 F D k4) (fun _ _ => none)
set_option maxRecDepth 100000 in
set_option maxHeartbeats 4000000 in
theorem t_X_slotsWithRow_4 (X : ev_X) (F : Nat) (d : Nat) (D : mx_D) (E : mx_E)  : ∀ (n : Nat) (l1 : Int32) (l2 : Int32) (v : Int32), g_X_slotsWithRow_4 F D n l1 l2 = some v → ev X d 115 (4, [some (.ref 0), some (.int l1), some (.int l2)], [], D, E) (qR (some (.int v)) D E) := by
  intro n
  induction n with
  | zero => intro l1 l2 v h; cases h
  | succ n ih => intro l1 l2 v h; exact tb_X_slotsWithRow_4 X F d D E (g_X_slotsWithRow_4 F D n) ih l1 l2 v h
def g_X_slotsWithRow (F : Nat) (D : mx_D) : Option (Int32) := (g_X_slotsWithRow_4 F D F (nI 0) (nI 0))
set_option maxRecDepth 100000 in
set_option maxHeartbeats 4000000 in
theorem t_X_slotsWithRow (X : ev_X) (F : Nat) (d : Nat) (D : mx_D) (E : mx_E) (v : Int32) (h : g_X_slotsWithRow F D = some v) : ev X d 115 (0, [some (.ref 0), none, none], [], D, E) (qR (some (.int v)) D E) := by
  have hq : kq_m 115 = some kq_q115 := rfl
  unfold g_X_slotsWithRow at h
  refine gv_n hq 4 (S' := (4, [some (.ref 0), some (.int (nI 0)), some (.int (nI 0))], [], D, E)) rfl ?_
  exact gv_w (t_X_slotsWithRow_4 X F d D E F _ _ _ h) (And.intro rfl (And.intro rfl (And.intro rfl trivial)))
def g_X_count (F : Nat) (D : mx_D) (a1 : Int32) : Option (Int32) := (if a1 = (nI 0) then (some (D 19 0)) else (if a1 = (nI 1) then (some (D 19 1)) else (if a1 = (nI 2) then (some (D 19 2)) else (if a1 = (nI 3) then (if (D 19 3) = 0 then (some (nI 0)) else (some (nI 1))) else (if a1 = (nI 4) then (some (D 24 6)) else (if a1 = (nI 5) then (Option.bind (g_Church_sitters F D) (fun r1 => (some r1))) else (if a1 = (nI 6) then (some (D 19 10)) else (if a1 = (nI 7) then (some (D 19 12)) else (if a1 = (nI 8) then (some (D 19 4)) else (if a1 = (nI 9) then (some (D 1 1)) else (if a1 = (nI 10) then (Option.bind (g_Church_sawnTogether F D) (fun r2 => (some r2))) else (if a1 = (nI 11) then (Option.bind (g_X_slotsWithRow F D) (fun r3 => (some r3))) else (some (-1 : Int32))))))))))))))
set_option maxRecDepth 100000 in
set_option maxHeartbeats 4000000 in
theorem t_X_count (X : ev_X) (F : Nat) (d : Nat) (hd : 3 ≤ d + 1) (D : mx_D) (E : mx_E) (a1 : Int32) (v : Int32) (h : g_X_count F D a1 = some v) : ev X (d + 1) 114 (0, [some (.ref 0), some (.int a1)], [], D, E) (qR (some (.int v)) D E) := by
  have hq : kq_m 114 = some kq_q114 := rfl
  unfold g_X_count at h
  refine gv_n hq 1 (S' := (1, [some (.ref 0), some (.int a1)], [.int a1], D, E)) rfl ?_
  refine gv_if h (fun c0 h => ?_) (fun c0 h => ?_)
  · refine ev_ins hq rfl (S' := (64, [some (.ref 0), some (.int a1)], [], D, E)) (gv_sw (fun z => ((1, [some (.ref 0), some (.int a1)], .int z :: [], D, E) : mx_S)) c0 rfl) ?_
    refine gv_n hq 3 (S' := (71, [some (.ref 0), some (.int a1)], [.int (D 19 0)], D, E)) rfl ?_
    cases h
    exact ev_ret hq rfl rfl ⟨rfl, rfl, rfl⟩
  refine gv_if h (fun c1 h => ?_) (fun c1 h => ?_)
  · refine ev_ins hq rfl (S' := (72, [some (.ref 0), some (.int a1)], [], D, E)) (gv_sw (fun z => ((1, [some (.ref 0), some (.int a1)], .int z :: [], D, E) : mx_S)) c1 rfl) ?_
    refine gv_n hq 3 (S' := (79, [some (.ref 0), some (.int a1)], [.int (D 19 1)], D, E)) rfl ?_
    cases h
    exact ev_ret hq rfl rfl ⟨rfl, rfl, rfl⟩
  refine gv_if h (fun c2 h => ?_) (fun c2 h => ?_)
  · refine ev_ins hq rfl (S' := (80, [some (.ref 0), some (.int a1)], [], D, E)) (gv_sw (fun z => ((1, [some (.ref 0), some (.int a1)], .int z :: [], D, E) : mx_S)) c2 rfl) ?_
    refine gv_n hq 3 (S' := (87, [some (.ref 0), some (.int a1)], [.int (D 19 2)], D, E)) rfl ?_
    cases h
    exact ev_ret hq rfl rfl ⟨rfl, rfl, rfl⟩
  refine gv_if h (fun c3 h => ?_) (fun c3 h => ?_)
  · refine ev_ins hq rfl (S' := (88, [some (.ref 0), some (.int a1)], [], D, E)) (gv_sw (fun z => ((1, [some (.ref 0), some (.int a1)], .int z :: [], D, E) : mx_S)) c3 rfl) ?_
    refine gv_n hq 3 (S' := (95, [some (.ref 0), some (.int a1)], [.int (D 19 3)], D, E)) rfl ?_
    refine gv_b hq rfl h 102 98 rfl rfl rfl (fun h => ?_) (fun h => ?_)
    · refine gv_n hq 1 (S' := (103, [some (.ref 0), some (.int a1)], [.int (nI 0)], D, E)) rfl ?_
      cases h
      exact ev_ret hq rfl rfl ⟨rfl, rfl, rfl⟩
    · refine gv_n hq 2 (S' := (103, [some (.ref 0), some (.int a1)], [.int (nI 1)], D, E)) rfl ?_
      cases h
      exact ev_ret hq rfl rfl ⟨rfl, rfl, rfl⟩
  refine gv_if h (fun c4 h => ?_) (fun c4 h => ?_)
  · refine ev_ins hq rfl (S' := (104, [some (.ref 0), some (.int a1)], [], D, E)) (gv_sw (fun z => ((1, [some (.ref 0), some (.int a1)], .int z :: [], D, E) : mx_S)) c4 rfl) ?_
    refine gv_n hq 4 (S' := (114, [some (.ref 0), some (.int a1)], [.int (D 24 6)], D, E)) rfl ?_
    cases h
    exact ev_ret hq rfl rfl ⟨rfl, rfl, rfl⟩
  refine gv_if h (fun c5 h => ?_) (fun c5 h => ?_)
  · refine ev_ins hq rfl (S' := (115, [some (.ref 0), some (.int a1)], [], D, E)) (gv_sw (fun z => ((1, [some (.ref 0), some (.int a1)], .int z :: [], D, E) : mx_S)) c5 rfl) ?_
    refine gv_n hq 2 (S' := (119, [some (.ref 0), some (.int a1)], [.ref 19], D, E)) rfl ?_
    obtain ⟨r1, h1, h⟩ := Option.bind_eq_some_iff.mp h
    refine gv_d hq rfl rfl rfl rfl rfl (gv_dd (by omega) (t_Church_sitters X F (d - 1) (by omega) D E _ h1)) (S' := (122, [some (.ref 0), some (.int a1)], [.int r1], D, E)) rfl ?_
    cases h
    exact ev_ret hq rfl rfl ⟨rfl, rfl, rfl⟩
  refine gv_if h (fun c6 h => ?_) (fun c6 h => ?_)
  · refine ev_ins hq rfl (S' := (123, [some (.ref 0), some (.int a1)], [], D, E)) (gv_sw (fun z => ((1, [some (.ref 0), some (.int a1)], .int z :: [], D, E) : mx_S)) c6 rfl) ?_
    refine gv_n hq 3 (S' := (130, [some (.ref 0), some (.int a1)], [.int (D 19 10)], D, E)) rfl ?_
    cases h
    exact ev_ret hq rfl rfl ⟨rfl, rfl, rfl⟩
  refine gv_if h (fun c7 h => ?_) (fun c7 h => ?_)
  · refine ev_ins hq rfl (S' := (131, [some (.ref 0), some (.int a1)], [], D, E)) (gv_sw (fun z => ((1, [some (.ref 0), some (.int a1)], .int z :: [], D, E) : mx_S)) c7 rfl) ?_
    refine gv_n hq 3 (S' := (138, [some (.ref 0), some (.int a1)], [.int (D 19 12)], D, E)) rfl ?_
    cases h
    exact ev_ret hq rfl rfl ⟨rfl, rfl, rfl⟩
  refine gv_if h (fun c8 h => ?_) (fun c8 h => ?_)
  · refine ev_ins hq rfl (S' := (139, [some (.ref 0), some (.int a1)], [], D, E)) (gv_sw (fun z => ((1, [some (.ref 0), some (.int a1)], .int z :: [], D, E) : mx_S)) c8 rfl) ?_
    refine gv_n hq 3 (S' := (146, [some (.ref 0), some (.int a1)], [.int (D 19 4)], D, E)) rfl ?_
    cases h
    exact ev_ret hq rfl rfl ⟨rfl, rfl, rfl⟩
  refine gv_if h (fun c9 h => ?_) (fun c9 h => ?_)
  · refine ev_ins hq rfl (S' := (147, [some (.ref 0), some (.int a1)], [], D, E)) (gv_sw (fun z => ((1, [some (.ref 0), some (.int a1)], .int z :: [], D, E) : mx_S)) c9 rfl) ?_
    refine gv_n hq 3 (S' := (154, [some (.ref 0), some (.int a1)], [.int (D 1 1)], D, E)) rfl ?_
    cases h
    exact ev_ret hq rfl rfl ⟨rfl, rfl, rfl⟩
  refine gv_if h (fun c10 h => ?_) (fun c10 h => ?_)
  · refine ev_ins hq rfl (S' := (155, [some (.ref 0), some (.int a1)], [], D, E)) (gv_sw (fun z => ((1, [some (.ref 0), some (.int a1)], .int z :: [], D, E) : mx_S)) c10 rfl) ?_
    refine gv_n hq 2 (S' := (159, [some (.ref 0), some (.int a1)], [.ref 19], D, E)) rfl ?_
    obtain ⟨r2, h1, h⟩ := Option.bind_eq_some_iff.mp h
    refine gv_d hq rfl rfl rfl rfl rfl ((t_Church_sawnTogether X F d D E _ h1)) (S' := (162, [some (.ref 0), some (.int a1)], [.int r2], D, E)) rfl ?_
    cases h
    exact ev_ret hq rfl rfl ⟨rfl, rfl, rfl⟩
  refine gv_if h (fun c11 h => ?_) (fun c11 h => ?_)
  · refine ev_ins hq rfl (S' := (163, [some (.ref 0), some (.int a1)], [], D, E)) (gv_sw (fun z => ((1, [some (.ref 0), some (.int a1)], .int z :: [], D, E) : mx_S)) c11 rfl) ?_
    refine gv_n hq 1 (S' := (164, [some (.ref 0), some (.int a1)], [.ref 0], D, E)) rfl ?_
    obtain ⟨r3, h1, h⟩ := Option.bind_eq_some_iff.mp h
    refine gv_d hq rfl rfl rfl rfl rfl ((t_X_slotsWithRow X F d D E _ h1)) (S' := (167, [some (.ref 0), some (.int a1)], [.int r3], D, E)) rfl ?_
    cases h
    exact ev_ret hq rfl rfl ⟨rfl, rfl, rfl⟩
  refine ev_ins hq rfl (S' := (168, [some (.ref 0), some (.int a1)], [], D, E)) (gv_swd (x := a1) (n := 12) (fun z => ((1, [some (.ref 0), some (.int a1)], .int z :: [], D, E) : mx_S)) ⟨⟨⟨⟨⟨⟨⟨⟨⟨⟨⟨⟨trivial, c0⟩, c1⟩, c2⟩, c3⟩, c4⟩, c5⟩, c6⟩, c7⟩, c8⟩, c9⟩, c10⟩, c11⟩ (m := 11) rfl rfl rfl) ?_
  refine gv_n hq 1 (S' := (169, [some (.ref 0), some (.int a1)], [.int (-1 : Int32)], D, E)) rfl ?_
  cases h
  exact ev_ret hq rfl rfl ⟨rfl, rfl, rfl⟩
def b_M_count_134 (F : Nat) (D : mx_D) (k134 : Int32 → Int32 → Option (Int32)) (l2 : Int32) (l3 : Int32) : Option (Int32) := (if (D 117 0) ≤ l3 then (some l2) else (Option.bind (g_M_ofPew D l3 (nI 2)) (fun r2 => (k134 (l2 + r2) (l3 + (nI 1))))))
set_option maxRecDepth 100000 in
set_option maxHeartbeats 4000000 in
theorem tb_M_count_134 (X : ev_X) (F : Nat) (d : Nat) (hd : 3 ≤ d + 1) (D : mx_D) (E : mx_E) (k134 : Int32 → Int32 → Option (Int32)) (K134 : ∀ (l2 : Int32) (l3 : Int32) (v : Int32), k134 l2 l3 = some v → ev X (d + 1) 327 (134, [some (.ref 116), none, some (.int l2), some (.int l3)], [], D, E) (qR (some (.int v)) D E)) (l2 : Int32) (l3 : Int32) (v : Int32) (h : b_M_count_134 F D k134 l2 l3 = some v) : ev X (d + 1) 327 (134, [some (.ref 116), none, some (.int l2), some (.int l3)], [], D, E) (qR (some (.int v)) D E) := by
  have hq : kq_m 327 = some kq_q327 := rfl
  unfold b_M_count_134 at h
  refine gv_n hq 5 (S' := (141, [some (.ref 116), none, some (.int l2), some (.int l3)], [.int (D 117 0), .int l3], D, E)) rfl ?_
  refine gv_b hq rfl h 159 144 rfl rfl rfl (fun h => ?_) (fun h => ?_)
  · refine gv_n hq 1 (S' := (160, [some (.ref 116), none, some (.int l2), some (.int l3)], [.int l2], D, E)) rfl ?_
    cases h
    exact ev_ret hq rfl rfl ⟨rfl, rfl, rfl⟩
  · refine gv_n hq 4 (S' := (148, [some (.ref 116), none, some (.int l2), some (.int l3)], [.int (nI 2), .int l3, .ref 116, .int l2], D, E)) rfl ?_
    obtain ⟨r2, h1, h⟩ := Option.bind_eq_some_iff.mp h
    refine gv_d hq rfl rfl rfl rfl rfl ((t_M_ofPew X d D E _ _ _ h1)) (S' := (151, [some (.ref 116), none, some (.int l2), some (.int l3)], [.int r2, .int l2], D, E)) rfl ?_
    refine gv_n hq 4 (S' := (134, [some (.ref 116), none, some (.int (l2 + r2)), some (.int (l3 + (nI 1)))], [], D, E)) rfl ?_
    exact gv_w (K134 _ _ _ h) (And.intro rfl (And.intro rfl (And.intro rfl trivial)))
def g_M_count_134 (F : Nat) (D : mx_D) : Nat → Int32 → Int32 → Option (Int32) := it (fun k134 => b_M_count_134 F D k134) (fun _ _ => none)
set_option maxRecDepth 100000 in
set_option maxHeartbeats 4000000 in
theorem t_M_count_134 (X : ev_X) (F : Nat) (d : Nat) (hd : 3 ≤ d + 1) (D : mx_D) (E : mx_E)  : ∀ (n : Nat) (l2 : Int32) (l3 : Int32) (v : Int32), g_M_count_134 F D n l2 l3 = some v → ev X (d + 1) 327 (134, [some (.ref 116), none, some (.int l2), some (.int l3)], [], D, E) (qR (some (.int v)) D E) := by
  intro n
  induction n with
  | zero => intro l2 l3 v h; cases h
  | succ n ih => intro l2 l3 v h; exact tb_M_count_134 X F d hd D E (g_M_count_134 F D n) ih l2 l3 v h
def b_M_count_163 (F : Nat) (D : mx_D) (k163 : Int32 → Int32 → Option (Int32)) (l2 : Int32) (l3 : Int32) : Option (Int32) := (if (nI 4) ≤ l3 then (some l2) else (rk 4 l3 (if (D 137 (l3).toNatClampNeg) = (-1 : Int32) then (k163 (l2 + (nI 0)) (l3 + (nI 1))) else (k163 (l2 + (nI 1)) (l3 + (nI 1))))))
set_option maxRecDepth 100000 in
set_option maxHeartbeats 4000000 in
theorem tb_M_count_163 (X : ev_X) (F : Nat) (d : Nat) (hd : 3 ≤ d + 1) (D : mx_D) (E : mx_E) (k163 : Int32 → Int32 → Option (Int32)) (K163 : ∀ (l2 : Int32) (l3 : Int32) (v : Int32), k163 l2 l3 = some v → ev X (d + 1) 327 (163, [some (.ref 116), none, some (.int l2), some (.int l3)], [], D, E) (qR (some (.int v)) D E)) (l2 : Int32) (l3 : Int32) (v : Int32) (h : b_M_count_163 F D k163 l2 l3 = some v) : ev X (d + 1) 327 (163, [some (.ref 116), none, some (.int l2), some (.int l3)], [], D, E) (qR (some (.int v)) D E) := by
  have hq : kq_m 327 = some kq_q327 := rfl
  unfold b_M_count_163 at h
  refine gv_n hq 2 (S' := (165, [some (.ref 116), none, some (.int l2), some (.int l3)], [.int (nI 4), .int l3], D, E)) rfl ?_
  refine gv_b hq rfl h 192 168 rfl rfl rfl (fun h => ?_) (fun h => ?_)
  · refine gv_n hq 1 (S' := (193, [some (.ref 116), none, some (.int l2), some (.int l3)], [.int l2], D, E)) rfl ?_
    cases h
    exact ev_ret hq rfl rfl ⟨rfl, rfl, rfl⟩
  · refine gv_n hq 4 (S' := (174, [some (.ref 116), none, some (.int l2), some (.int l3)], [.int l3, .ref 137, .int l2], D, E)) rfl ?_
    refine gv_ia hq rfl rfl rfl h 175 rfl (fun h => ?_)
    refine gv_n hq 1 (S' := (176, [some (.ref 116), none, some (.int l2), some (.int l3)], [.int (-1 : Int32), .int (D 137 (l3).toNatClampNeg), .int l2], D, E)) rfl ?_
    refine gv_b hq rfl h 179 183 rfl rfl rfl (fun h => ?_) (fun h => ?_)
    · refine gv_n hq 6 (S' := (163, [some (.ref 116), none, some (.int (l2 + (nI 0))), some (.int (l3 + (nI 1)))], [], D, E)) rfl ?_
      exact gv_w (K163 _ _ _ h) (And.intro rfl (And.intro rfl (And.intro rfl trivial)))
    · refine gv_n hq 5 (S' := (163, [some (.ref 116), none, some (.int (l2 + (nI 1))), some (.int (l3 + (nI 1)))], [], D, E)) rfl ?_
      exact gv_w (K163 _ _ _ h) (And.intro rfl (And.intro rfl (And.intro rfl trivial)))
def g_M_count_163 (F : Nat) (D : mx_D) : Nat → Int32 → Int32 → Option (Int32) := it (fun k163 => b_M_count_163 F D k163) (fun _ _ => none)
set_option maxRecDepth 100000 in
set_option maxHeartbeats 4000000 in
theorem t_M_count_163 (X : ev_X) (F : Nat) (d : Nat) (hd : 3 ≤ d + 1) (D : mx_D) (E : mx_E)  : ∀ (n : Nat) (l2 : Int32) (l3 : Int32) (v : Int32), g_M_count_163 F D n l2 l3 = some v → ev X (d + 1) 327 (163, [some (.ref 116), none, some (.int l2), some (.int l3)], [], D, E) (qR (some (.int v)) D E) := by
  intro n
  induction n with
  | zero => intro l2 l3 v h; cases h
  | succ n ih => intro l2 l3 v h; exact tb_M_count_163 X F d hd D E (g_M_count_163 F D n) ih l2 l3 v h
def g_M_count (F : Nat) (D : mx_D) (a1 : Int32) : Option (Int32) := (if a1 = (nI 0) then (some (D 117 0)) else (if a1 = (nI 1) then (some (D 117 1)) else (if a1 = (nI 2) then (some (D 117 2)) else (if a1 = (nI 3) then (some (D 117 3)) else (if a1 = (nI 4) then (some (D 117 4)) else (if a1 = (nI 5) then (Option.bind (g_M_sitters F D) (fun r1 => (some r1))) else (if a1 = (nI 6) then (some (D 117 5)) else (if a1 = (nI 7) then (some (D 117 6)) else (if a1 = (nI 8) then (some (D 117 7)) else (if a1 = (nI 9) then (some (D 116 5)) else (if a1 = (nI 10) then (g_M_count_134 F D F (nI 0) (nI 0)) else (if a1 = (nI 11) then (g_M_count_163 F D F (nI 0) (nI 0)) else (some (-1 : Int32))))))))))))))
set_option maxRecDepth 100000 in
set_option maxHeartbeats 4000000 in
theorem t_M_count (X : ev_X) (F : Nat) (d : Nat) (hd : 3 ≤ d + 1) (D : mx_D) (E : mx_E) (a1 : Int32) (v : Int32) (h : g_M_count F D a1 = some v) : ev X (d + 1) 327 (0, [some (.ref 116), some (.int a1), none, none], [], D, E) (qR (some (.int v)) D E) := by
  have hq : kq_m 327 = some kq_q327 := rfl
  unfold g_M_count at h
  refine gv_n hq 3 (S' := (3, [some (.ref 116), some (.int a1), some (.int (nI 0)), none], [.int a1], D, E)) rfl ?_
  refine gv_if h (fun c0 h => ?_) (fun c0 h => ?_)
  · refine ev_ins hq rfl (S' := (64, [some (.ref 116), some (.int a1), some (.int (nI 0)), none], [], D, E)) (gv_sw (fun z => ((3, [some (.ref 116), some (.int a1), some (.int (nI 0)), none], .int z :: [], D, E) : mx_S)) c0 rfl) ?_
    refine gv_n hq 4 (S' := (70, [some (.ref 116), some (.int a1), some (.int (nI 0)), none], [.int (D 117 0)], D, E)) rfl ?_
    cases h
    exact ev_ret hq rfl rfl ⟨rfl, rfl, rfl⟩
  refine gv_if h (fun c1 h => ?_) (fun c1 h => ?_)
  · refine ev_ins hq rfl (S' := (71, [some (.ref 116), some (.int a1), some (.int (nI 0)), none], [], D, E)) (gv_sw (fun z => ((3, [some (.ref 116), some (.int a1), some (.int (nI 0)), none], .int z :: [], D, E) : mx_S)) c1 rfl) ?_
    refine gv_n hq 4 (S' := (77, [some (.ref 116), some (.int a1), some (.int (nI 0)), none], [.int (D 117 1)], D, E)) rfl ?_
    cases h
    exact ev_ret hq rfl rfl ⟨rfl, rfl, rfl⟩
  refine gv_if h (fun c2 h => ?_) (fun c2 h => ?_)
  · refine ev_ins hq rfl (S' := (78, [some (.ref 116), some (.int a1), some (.int (nI 0)), none], [], D, E)) (gv_sw (fun z => ((3, [some (.ref 116), some (.int a1), some (.int (nI 0)), none], .int z :: [], D, E) : mx_S)) c2 rfl) ?_
    refine gv_n hq 4 (S' := (84, [some (.ref 116), some (.int a1), some (.int (nI 0)), none], [.int (D 117 2)], D, E)) rfl ?_
    cases h
    exact ev_ret hq rfl rfl ⟨rfl, rfl, rfl⟩
  refine gv_if h (fun c3 h => ?_) (fun c3 h => ?_)
  · refine ev_ins hq rfl (S' := (85, [some (.ref 116), some (.int a1), some (.int (nI 0)), none], [], D, E)) (gv_sw (fun z => ((3, [some (.ref 116), some (.int a1), some (.int (nI 0)), none], .int z :: [], D, E) : mx_S)) c3 rfl) ?_
    refine gv_n hq 4 (S' := (91, [some (.ref 116), some (.int a1), some (.int (nI 0)), none], [.int (D 117 3)], D, E)) rfl ?_
    cases h
    exact ev_ret hq rfl rfl ⟨rfl, rfl, rfl⟩
  refine gv_if h (fun c4 h => ?_) (fun c4 h => ?_)
  · refine ev_ins hq rfl (S' := (92, [some (.ref 116), some (.int a1), some (.int (nI 0)), none], [], D, E)) (gv_sw (fun z => ((3, [some (.ref 116), some (.int a1), some (.int (nI 0)), none], .int z :: [], D, E) : mx_S)) c4 rfl) ?_
    refine gv_n hq 4 (S' := (98, [some (.ref 116), some (.int a1), some (.int (nI 0)), none], [.int (D 117 4)], D, E)) rfl ?_
    cases h
    exact ev_ret hq rfl rfl ⟨rfl, rfl, rfl⟩
  refine gv_if h (fun c5 h => ?_) (fun c5 h => ?_)
  · refine ev_ins hq rfl (S' := (99, [some (.ref 116), some (.int a1), some (.int (nI 0)), none], [], D, E)) (gv_sw (fun z => ((3, [some (.ref 116), some (.int a1), some (.int (nI 0)), none], .int z :: [], D, E) : mx_S)) c5 rfl) ?_
    refine gv_n hq 1 (S' := (100, [some (.ref 116), some (.int a1), some (.int (nI 0)), none], [.ref 116], D, E)) rfl ?_
    obtain ⟨r1, h1, h⟩ := Option.bind_eq_some_iff.mp h
    refine gv_d hq rfl rfl rfl rfl rfl (gv_dd (by omega) (t_M_sitters X F (d - 1) (by omega) D E _ h1)) (S' := (103, [some (.ref 116), some (.int a1), some (.int (nI 0)), none], [.int r1], D, E)) rfl ?_
    cases h
    exact ev_ret hq rfl rfl ⟨rfl, rfl, rfl⟩
  refine gv_if h (fun c6 h => ?_) (fun c6 h => ?_)
  · refine ev_ins hq rfl (S' := (104, [some (.ref 116), some (.int a1), some (.int (nI 0)), none], [], D, E)) (gv_sw (fun z => ((3, [some (.ref 116), some (.int a1), some (.int (nI 0)), none], .int z :: [], D, E) : mx_S)) c6 rfl) ?_
    refine gv_n hq 4 (S' := (110, [some (.ref 116), some (.int a1), some (.int (nI 0)), none], [.int (D 117 5)], D, E)) rfl ?_
    cases h
    exact ev_ret hq rfl rfl ⟨rfl, rfl, rfl⟩
  refine gv_if h (fun c7 h => ?_) (fun c7 h => ?_)
  · refine ev_ins hq rfl (S' := (111, [some (.ref 116), some (.int a1), some (.int (nI 0)), none], [], D, E)) (gv_sw (fun z => ((3, [some (.ref 116), some (.int a1), some (.int (nI 0)), none], .int z :: [], D, E) : mx_S)) c7 rfl) ?_
    refine gv_n hq 4 (S' := (118, [some (.ref 116), some (.int a1), some (.int (nI 0)), none], [.int (D 117 6)], D, E)) rfl ?_
    cases h
    exact ev_ret hq rfl rfl ⟨rfl, rfl, rfl⟩
  refine gv_if h (fun c8 h => ?_) (fun c8 h => ?_)
  · refine ev_ins hq rfl (S' := (119, [some (.ref 116), some (.int a1), some (.int (nI 0)), none], [], D, E)) (gv_sw (fun z => ((3, [some (.ref 116), some (.int a1), some (.int (nI 0)), none], .int z :: [], D, E) : mx_S)) c8 rfl) ?_
    refine gv_n hq 4 (S' := (126, [some (.ref 116), some (.int a1), some (.int (nI 0)), none], [.int (D 117 7)], D, E)) rfl ?_
    cases h
    exact ev_ret hq rfl rfl ⟨rfl, rfl, rfl⟩
  refine gv_if h (fun c9 h => ?_) (fun c9 h => ?_)
  · refine ev_ins hq rfl (S' := (127, [some (.ref 116), some (.int a1), some (.int (nI 0)), none], [], D, E)) (gv_sw (fun z => ((3, [some (.ref 116), some (.int a1), some (.int (nI 0)), none], .int z :: [], D, E) : mx_S)) c9 rfl) ?_
    refine gv_n hq 2 (S' := (131, [some (.ref 116), some (.int a1), some (.int (nI 0)), none], [.int (D 116 5)], D, E)) rfl ?_
    cases h
    exact ev_ret hq rfl rfl ⟨rfl, rfl, rfl⟩
  refine gv_if h (fun c10 h => ?_) (fun c10 h => ?_)
  · refine ev_ins hq rfl (S' := (132, [some (.ref 116), some (.int a1), some (.int (nI 0)), none], [], D, E)) (gv_sw (fun z => ((3, [some (.ref 116), some (.int a1), some (.int (nI 0)), none], .int z :: [], D, E) : mx_S)) c10 rfl) ?_
    refine gv_n hq 2 (S' := (134, [some (.ref 116), some (.int a1), some (.int (nI 0)), some (.int (nI 0))], [], D, E)) rfl ?_
    exact gv_w (t_M_count_134 X F d hd D E F _ _ _ h) (And.intro rfl (And.intro rfl (And.intro rfl trivial)))
  refine gv_if h (fun c11 h => ?_) (fun c11 h => ?_)
  · refine ev_ins hq rfl (S' := (161, [some (.ref 116), some (.int a1), some (.int (nI 0)), none], [], D, E)) (gv_sw (fun z => ((3, [some (.ref 116), some (.int a1), some (.int (nI 0)), none], .int z :: [], D, E) : mx_S)) c11 rfl) ?_
    refine gv_n hq 2 (S' := (163, [some (.ref 116), some (.int a1), some (.int (nI 0)), some (.int (nI 0))], [], D, E)) rfl ?_
    exact gv_w (t_M_count_163 X F d hd D E F _ _ _ h) (And.intro rfl (And.intro rfl (And.intro rfl trivial)))
  refine ev_ins hq rfl (S' := (194, [some (.ref 116), some (.int a1), some (.int (nI 0)), none], [], D, E)) (gv_swd (x := a1) (n := 12) (fun z => ((3, [some (.ref 116), some (.int a1), some (.int (nI 0)), none], .int z :: [], D, E) : mx_S)) ⟨⟨⟨⟨⟨⟨⟨⟨⟨⟨⟨⟨trivial, c0⟩, c1⟩, c2⟩, c3⟩, c4⟩, c5⟩, c6⟩, c7⟩, c8⟩, c9⟩, c10⟩, c11⟩ (m := 11) rfl rfl rfl) ?_
  refine gv_n hq 1 (S' := (195, [some (.ref 116), some (.int a1), some (.int (nI 0)), none], [.int (-1 : Int32)], D, E)) rfl ?_
  cases h
  exact ev_ret hq rfl rfl ⟨rfl, rfl, rfl⟩
def g_People_copyOf_68_24 (D : mx_D) : mx_D := (sD (cD (cD (cD (cD (cD (cD D 25 69 0 0 8) 26 70 0 0 8) 27 71 0 0 8) 28 72 0 0 8) 29 73 0 0 8) 30 74 0 0 8) 68 6 ((cD (cD (cD (cD (cD (cD D 25 69 0 0 8) 26 70 0 0 8) 27 71 0 0 8) 28 72 0 0 8) 29 73 0 0 8) 30 74 0 0 8) 24 6))
set_option maxRecDepth 100000 in
set_option maxHeartbeats 4000000 in
theorem t_People_copyOf_68_24 (X : ev_X) (d : Nat) (hd : 1 ≤ d + 1) (E : mx_E) (D : mx_D) (v : mx_D) (h : g_People_copyOf_68_24 D = v) : ev X (d + 1) 56 (0, [some (.ref 68), some (.ref 24)], [], D, E) (qR none v E) := by
  have hq : kq_m 56 = some kq_q56 := rfl
  unfold g_People_copyOf_68_24 at h
  refine gv_n hq 52 (S' := (98, [some (.ref 68), some (.ref 24)], [], (sD (cD (cD (cD (cD (cD (cD D 25 69 0 0 8) 26 70 0 0 8) 27 71 0 0 8) 28 72 0 0 8) 29 73 0 0 8) 30 74 0 0 8) 68 6 ((cD (cD (cD (cD (cD (cD D 25 69 0 0 8) 26 70 0 0 8) 27 71 0 0 8) 28 72 0 0 8) 29 73 0 0 8) 30 74 0 0 8) 24 6)), E)) rfl ?_
  subst h
  exact ev_ret hq rfl rfl ⟨rfl, rfl, rfl⟩
def g_Church_copyOf_63_19 (D : mx_D) : Option (mx_D) := (zk ((sD (sD (sD D 63 0 (D 19 0)) 63 1 ((sD D 63 0 (D 19 0)) 19 1)) 63 2 ((sD (sD D 63 0 (D 19 0)) 63 1 ((sD D 63 0 (D 19 0)) 19 1)) 19 2)) 19 3) (some (cD (cD (sD (cD (sD (g_People_copyOf_68_24 (cD (cD (cD (cD (sD (sD (sD (sD (sD D 63 0 (D 19 0)) 63 1 ((sD D 63 0 (D 19 0)) 19 1)) 63 2 ((sD (sD D 63 0 (D 19 0)) 63 1 ((sD D 63 0 (D 19 0)) 19 1)) 19 2)) 63 3 ((sD (sD (sD D 63 0 (D 19 0)) 63 1 ((sD D 63 0 (D 19 0)) 19 1)) 63 2 ((sD (sD D 63 0 (D 19 0)) 63 1 ((sD D 63 0 (D 19 0)) 19 1)) 19 2)) 19 3)) 63 4 ((sD (sD (sD (sD D 63 0 (D 19 0)) 63 1 ((sD D 63 0 (D 19 0)) 19 1)) 63 2 ((sD (sD D 63 0 (D 19 0)) 63 1 ((sD D 63 0 (D 19 0)) 19 1)) 19 2)) 63 3 ((sD (sD (sD D 63 0 (D 19 0)) 63 1 ((sD D 63 0 (D 19 0)) 19 1)) 63 2 ((sD (sD D 63 0 (D 19 0)) 63 1 ((sD D 63 0 (D 19 0)) 19 1)) 19 2)) 19 3)) 19 4)) 20 64 0 0 4) 21 65 0 0 4) 22 66 0 0 4) 23 67 0 0 20)) 63 10 ((g_People_copyOf_68_24 (cD (cD (cD (cD (sD (sD (sD (sD (sD D 63 0 (D 19 0)) 63 1 ((sD D 63 0 (D 19 0)) 19 1)) 63 2 ((sD (sD D 63 0 (D 19 0)) 63 1 ((sD D 63 0 (D 19 0)) 19 1)) 19 2)) 63 3 ((sD (sD (sD D 63 0 (D 19 0)) 63 1 ((sD D 63 0 (D 19 0)) 19 1)) 63 2 ((sD (sD D 63 0 (D 19 0)) 63 1 ((sD D 63 0 (D 19 0)) 19 1)) 19 2)) 19 3)) 63 4 ((sD (sD (sD (sD D 63 0 (D 19 0)) 63 1 ((sD D 63 0 (D 19 0)) 19 1)) 63 2 ((sD (sD D 63 0 (D 19 0)) 63 1 ((sD D 63 0 (D 19 0)) 19 1)) 19 2)) 63 3 ((sD (sD (sD D 63 0 (D 19 0)) 63 1 ((sD D 63 0 (D 19 0)) 19 1)) 63 2 ((sD (sD D 63 0 (D 19 0)) 63 1 ((sD D 63 0 (D 19 0)) 19 1)) 19 2)) 19 3)) 19 4)) 20 64 0 0 4) 21 65 0 0 4) 22 66 0 0 4) 23 67 0 0 20)) 19 10)) 31 75 0 0 8) 63 12 ((cD (sD (g_People_copyOf_68_24 (cD (cD (cD (cD (sD (sD (sD (sD (sD D 63 0 (D 19 0)) 63 1 ((sD D 63 0 (D 19 0)) 19 1)) 63 2 ((sD (sD D 63 0 (D 19 0)) 63 1 ((sD D 63 0 (D 19 0)) 19 1)) 19 2)) 63 3 ((sD (sD (sD D 63 0 (D 19 0)) 63 1 ((sD D 63 0 (D 19 0)) 19 1)) 63 2 ((sD (sD D 63 0 (D 19 0)) 63 1 ((sD D 63 0 (D 19 0)) 19 1)) 19 2)) 19 3)) 63 4 ((sD (sD (sD (sD D 63 0 (D 19 0)) 63 1 ((sD D 63 0 (D 19 0)) 19 1)) 63 2 ((sD (sD D 63 0 (D 19 0)) 63 1 ((sD D 63 0 (D 19 0)) 19 1)) 19 2)) 63 3 ((sD (sD (sD D 63 0 (D 19 0)) 63 1 ((sD D 63 0 (D 19 0)) 19 1)) 63 2 ((sD (sD D 63 0 (D 19 0)) 63 1 ((sD D 63 0 (D 19 0)) 19 1)) 19 2)) 19 3)) 19 4)) 20 64 0 0 4) 21 65 0 0 4) 22 66 0 0 4) 23 67 0 0 20)) 63 10 ((g_People_copyOf_68_24 (cD (cD (cD (cD (sD (sD (sD (sD (sD D 63 0 (D 19 0)) 63 1 ((sD D 63 0 (D 19 0)) 19 1)) 63 2 ((sD (sD D 63 0 (D 19 0)) 63 1 ((sD D 63 0 (D 19 0)) 19 1)) 19 2)) 63 3 ((sD (sD (sD D 63 0 (D 19 0)) 63 1 ((sD D 63 0 (D 19 0)) 19 1)) 63 2 ((sD (sD D 63 0 (D 19 0)) 63 1 ((sD D 63 0 (D 19 0)) 19 1)) 19 2)) 19 3)) 63 4 ((sD (sD (sD (sD D 63 0 (D 19 0)) 63 1 ((sD D 63 0 (D 19 0)) 19 1)) 63 2 ((sD (sD D 63 0 (D 19 0)) 63 1 ((sD D 63 0 (D 19 0)) 19 1)) 19 2)) 63 3 ((sD (sD (sD D 63 0 (D 19 0)) 63 1 ((sD D 63 0 (D 19 0)) 19 1)) 63 2 ((sD (sD D 63 0 (D 19 0)) 63 1 ((sD D 63 0 (D 19 0)) 19 1)) 19 2)) 19 3)) 19 4)) 20 64 0 0 4) 21 65 0 0 4) 22 66 0 0 4) 23 67 0 0 20)) 19 10)) 31 75 0 0 8) 19 12)) 32 76 0 0 5) 33 77 0 0 5)))
set_option maxRecDepth 100000 in
set_option maxHeartbeats 4000000 in
theorem t_Church_copyOf_63_19 (X : ev_X) (d : Nat) (hd : 2 ≤ d + 1) (E : mx_E) (D : mx_D) (v : mx_D) (h : g_Church_copyOf_63_19 D = some v) : ev X (d + 1) 15 (0, [some (.ref 63), some (.ref 19)], [], D, E) (qR none v E) := by
  have hq : kq_m 15 = some kq_q15 := rfl
  unfold g_Church_copyOf_63_19 at h
  refine gv_n hq 15 (S' := (29, [some (.ref 63), some (.ref 19)], [.int ((sD (sD (sD D 63 0 (D 19 0)) 63 1 ((sD D 63 0 (D 19 0)) 19 1)) 63 2 ((sD (sD D 63 0 (D 19 0)) 63 1 ((sD D 63 0 (D 19 0)) 19 1)) 19 2)) 19 3), .ref 63], (sD (sD (sD D 63 0 (D 19 0)) 63 1 ((sD D 63 0 (D 19 0)) 19 1)) 63 2 ((sD (sD D 63 0 (D 19 0)) 63 1 ((sD D 63 0 (D 19 0)) 19 1)) 19 2)), E)) rfl ?_
  refine gv_zp hq rfl h (S' := (32, [some (.ref 63), some (.ref 19)], [], (sD (sD (sD (sD D 63 0 (D 19 0)) 63 1 ((sD D 63 0 (D 19 0)) 19 1)) 63 2 ((sD (sD D 63 0 (D 19 0)) 63 1 ((sD D 63 0 (D 19 0)) 19 1)) 19 2)) 63 3 ((sD (sD (sD D 63 0 (D 19 0)) 63 1 ((sD D 63 0 (D 19 0)) 19 1)) 63 2 ((sD (sD D 63 0 (D 19 0)) 63 1 ((sD D 63 0 (D 19 0)) 19 1)) 19 2)) 19 3)), E)) rfl (fun h => ?_)
  refine gv_n hq 40 (S' := (105, [some (.ref 63), some (.ref 19)], [.ref 24, .ref 68], (cD (cD (cD (cD (sD (sD (sD (sD (sD D 63 0 (D 19 0)) 63 1 ((sD D 63 0 (D 19 0)) 19 1)) 63 2 ((sD (sD D 63 0 (D 19 0)) 63 1 ((sD D 63 0 (D 19 0)) 19 1)) 19 2)) 63 3 ((sD (sD (sD D 63 0 (D 19 0)) 63 1 ((sD D 63 0 (D 19 0)) 19 1)) 63 2 ((sD (sD D 63 0 (D 19 0)) 63 1 ((sD D 63 0 (D 19 0)) 19 1)) 19 2)) 19 3)) 63 4 ((sD (sD (sD (sD D 63 0 (D 19 0)) 63 1 ((sD D 63 0 (D 19 0)) 19 1)) 63 2 ((sD (sD D 63 0 (D 19 0)) 63 1 ((sD D 63 0 (D 19 0)) 19 1)) 19 2)) 63 3 ((sD (sD (sD D 63 0 (D 19 0)) 63 1 ((sD D 63 0 (D 19 0)) 19 1)) 63 2 ((sD (sD D 63 0 (D 19 0)) 63 1 ((sD D 63 0 (D 19 0)) 19 1)) 19 2)) 19 3)) 19 4)) 20 64 0 0 4) 21 65 0 0 4) 22 66 0 0 4) 23 67 0 0 20), E)) rfl ?_
  refine gv_d hq rfl rfl rfl rfl rfl (gv_dd (by omega) (t_People_copyOf_68_24 X (d - 1) (by omega) E _ _ rfl)) (S' := (108, [some (.ref 63), some (.ref 19)], [], (g_People_copyOf_68_24 (cD (cD (cD (cD (sD (sD (sD (sD (sD D 63 0 (D 19 0)) 63 1 ((sD D 63 0 (D 19 0)) 19 1)) 63 2 ((sD (sD D 63 0 (D 19 0)) 63 1 ((sD D 63 0 (D 19 0)) 19 1)) 19 2)) 63 3 ((sD (sD (sD D 63 0 (D 19 0)) 63 1 ((sD D 63 0 (D 19 0)) 19 1)) 63 2 ((sD (sD D 63 0 (D 19 0)) 63 1 ((sD D 63 0 (D 19 0)) 19 1)) 19 2)) 19 3)) 63 4 ((sD (sD (sD (sD D 63 0 (D 19 0)) 63 1 ((sD D 63 0 (D 19 0)) 19 1)) 63 2 ((sD (sD D 63 0 (D 19 0)) 63 1 ((sD D 63 0 (D 19 0)) 19 1)) 19 2)) 63 3 ((sD (sD (sD D 63 0 (D 19 0)) 63 1 ((sD D 63 0 (D 19 0)) 19 1)) 63 2 ((sD (sD D 63 0 (D 19 0)) 63 1 ((sD D 63 0 (D 19 0)) 19 1)) 19 2)) 19 3)) 19 4)) 20 64 0 0 4) 21 65 0 0 4) 22 66 0 0 4) 23 67 0 0 20)), E)) rfl ?_
  refine gv_n hq 32 (S' := (167, [some (.ref 63), some (.ref 19)], [], (cD (cD (sD (cD (sD (g_People_copyOf_68_24 (cD (cD (cD (cD (sD (sD (sD (sD (sD D 63 0 (D 19 0)) 63 1 ((sD D 63 0 (D 19 0)) 19 1)) 63 2 ((sD (sD D 63 0 (D 19 0)) 63 1 ((sD D 63 0 (D 19 0)) 19 1)) 19 2)) 63 3 ((sD (sD (sD D 63 0 (D 19 0)) 63 1 ((sD D 63 0 (D 19 0)) 19 1)) 63 2 ((sD (sD D 63 0 (D 19 0)) 63 1 ((sD D 63 0 (D 19 0)) 19 1)) 19 2)) 19 3)) 63 4 ((sD (sD (sD (sD D 63 0 (D 19 0)) 63 1 ((sD D 63 0 (D 19 0)) 19 1)) 63 2 ((sD (sD D 63 0 (D 19 0)) 63 1 ((sD D 63 0 (D 19 0)) 19 1)) 19 2)) 63 3 ((sD (sD (sD D 63 0 (D 19 0)) 63 1 ((sD D 63 0 (D 19 0)) 19 1)) 63 2 ((sD (sD D 63 0 (D 19 0)) 63 1 ((sD D 63 0 (D 19 0)) 19 1)) 19 2)) 19 3)) 19 4)) 20 64 0 0 4) 21 65 0 0 4) 22 66 0 0 4) 23 67 0 0 20)) 63 10 ((g_People_copyOf_68_24 (cD (cD (cD (cD (sD (sD (sD (sD (sD D 63 0 (D 19 0)) 63 1 ((sD D 63 0 (D 19 0)) 19 1)) 63 2 ((sD (sD D 63 0 (D 19 0)) 63 1 ((sD D 63 0 (D 19 0)) 19 1)) 19 2)) 63 3 ((sD (sD (sD D 63 0 (D 19 0)) 63 1 ((sD D 63 0 (D 19 0)) 19 1)) 63 2 ((sD (sD D 63 0 (D 19 0)) 63 1 ((sD D 63 0 (D 19 0)) 19 1)) 19 2)) 19 3)) 63 4 ((sD (sD (sD (sD D 63 0 (D 19 0)) 63 1 ((sD D 63 0 (D 19 0)) 19 1)) 63 2 ((sD (sD D 63 0 (D 19 0)) 63 1 ((sD D 63 0 (D 19 0)) 19 1)) 19 2)) 63 3 ((sD (sD (sD D 63 0 (D 19 0)) 63 1 ((sD D 63 0 (D 19 0)) 19 1)) 63 2 ((sD (sD D 63 0 (D 19 0)) 63 1 ((sD D 63 0 (D 19 0)) 19 1)) 19 2)) 19 3)) 19 4)) 20 64 0 0 4) 21 65 0 0 4) 22 66 0 0 4) 23 67 0 0 20)) 19 10)) 31 75 0 0 8) 63 12 ((cD (sD (g_People_copyOf_68_24 (cD (cD (cD (cD (sD (sD (sD (sD (sD D 63 0 (D 19 0)) 63 1 ((sD D 63 0 (D 19 0)) 19 1)) 63 2 ((sD (sD D 63 0 (D 19 0)) 63 1 ((sD D 63 0 (D 19 0)) 19 1)) 19 2)) 63 3 ((sD (sD (sD D 63 0 (D 19 0)) 63 1 ((sD D 63 0 (D 19 0)) 19 1)) 63 2 ((sD (sD D 63 0 (D 19 0)) 63 1 ((sD D 63 0 (D 19 0)) 19 1)) 19 2)) 19 3)) 63 4 ((sD (sD (sD (sD D 63 0 (D 19 0)) 63 1 ((sD D 63 0 (D 19 0)) 19 1)) 63 2 ((sD (sD D 63 0 (D 19 0)) 63 1 ((sD D 63 0 (D 19 0)) 19 1)) 19 2)) 63 3 ((sD (sD (sD D 63 0 (D 19 0)) 63 1 ((sD D 63 0 (D 19 0)) 19 1)) 63 2 ((sD (sD D 63 0 (D 19 0)) 63 1 ((sD D 63 0 (D 19 0)) 19 1)) 19 2)) 19 3)) 19 4)) 20 64 0 0 4) 21 65 0 0 4) 22 66 0 0 4) 23 67 0 0 20)) 63 10 ((g_People_copyOf_68_24 (cD (cD (cD (cD (sD (sD (sD (sD (sD D 63 0 (D 19 0)) 63 1 ((sD D 63 0 (D 19 0)) 19 1)) 63 2 ((sD (sD D 63 0 (D 19 0)) 63 1 ((sD D 63 0 (D 19 0)) 19 1)) 19 2)) 63 3 ((sD (sD (sD D 63 0 (D 19 0)) 63 1 ((sD D 63 0 (D 19 0)) 19 1)) 63 2 ((sD (sD D 63 0 (D 19 0)) 63 1 ((sD D 63 0 (D 19 0)) 19 1)) 19 2)) 19 3)) 63 4 ((sD (sD (sD (sD D 63 0 (D 19 0)) 63 1 ((sD D 63 0 (D 19 0)) 19 1)) 63 2 ((sD (sD D 63 0 (D 19 0)) 63 1 ((sD D 63 0 (D 19 0)) 19 1)) 19 2)) 63 3 ((sD (sD (sD D 63 0 (D 19 0)) 63 1 ((sD D 63 0 (D 19 0)) 19 1)) 63 2 ((sD (sD D 63 0 (D 19 0)) 63 1 ((sD D 63 0 (D 19 0)) 19 1)) 19 2)) 19 3)) 19 4)) 20 64 0 0 4) 21 65 0 0 4) 22 66 0 0 4) 23 67 0 0 20)) 19 10)) 31 75 0 0 8) 19 12)) 32 76 0 0 5) 33 77 0 0 5), E)) rfl ?_
  cases h
  exact ev_ret hq rfl rfl ⟨rfl, rfl, rfl⟩
def g_People_copyOf_83_24 (D : mx_D) : mx_D := (sD (cD (cD (cD (cD (cD (cD D 25 84 0 0 8) 26 85 0 0 8) 27 86 0 0 8) 28 87 0 0 8) 29 88 0 0 8) 30 89 0 0 8) 83 6 ((cD (cD (cD (cD (cD (cD D 25 84 0 0 8) 26 85 0 0 8) 27 86 0 0 8) 28 87 0 0 8) 29 88 0 0 8) 30 89 0 0 8) 24 6))
set_option maxRecDepth 100000 in
set_option maxHeartbeats 4000000 in
theorem t_People_copyOf_83_24 (X : ev_X) (d : Nat) (hd : 1 ≤ d + 1) (E : mx_E) (D : mx_D) (v : mx_D) (h : g_People_copyOf_83_24 D = v) : ev X (d + 1) 56 (0, [some (.ref 83), some (.ref 24)], [], D, E) (qR none v E) := by
  have hq : kq_m 56 = some kq_q56 := rfl
  unfold g_People_copyOf_83_24 at h
  refine gv_n hq 52 (S' := (98, [some (.ref 83), some (.ref 24)], [], (sD (cD (cD (cD (cD (cD (cD D 25 84 0 0 8) 26 85 0 0 8) 27 86 0 0 8) 28 87 0 0 8) 29 88 0 0 8) 30 89 0 0 8) 83 6 ((cD (cD (cD (cD (cD (cD D 25 84 0 0 8) 26 85 0 0 8) 27 86 0 0 8) 28 87 0 0 8) 29 88 0 0 8) 30 89 0 0 8) 24 6)), E)) rfl ?_
  subst h
  exact ev_ret hq rfl rfl ⟨rfl, rfl, rfl⟩
def g_Church_copyOf_78_19 (D : mx_D) : Option (mx_D) := (zk ((sD (sD (sD D 78 0 (D 19 0)) 78 1 ((sD D 78 0 (D 19 0)) 19 1)) 78 2 ((sD (sD D 78 0 (D 19 0)) 78 1 ((sD D 78 0 (D 19 0)) 19 1)) 19 2)) 19 3) (some (cD (cD (sD (cD (sD (g_People_copyOf_83_24 (cD (cD (cD (cD (sD (sD (sD (sD (sD D 78 0 (D 19 0)) 78 1 ((sD D 78 0 (D 19 0)) 19 1)) 78 2 ((sD (sD D 78 0 (D 19 0)) 78 1 ((sD D 78 0 (D 19 0)) 19 1)) 19 2)) 78 3 ((sD (sD (sD D 78 0 (D 19 0)) 78 1 ((sD D 78 0 (D 19 0)) 19 1)) 78 2 ((sD (sD D 78 0 (D 19 0)) 78 1 ((sD D 78 0 (D 19 0)) 19 1)) 19 2)) 19 3)) 78 4 ((sD (sD (sD (sD D 78 0 (D 19 0)) 78 1 ((sD D 78 0 (D 19 0)) 19 1)) 78 2 ((sD (sD D 78 0 (D 19 0)) 78 1 ((sD D 78 0 (D 19 0)) 19 1)) 19 2)) 78 3 ((sD (sD (sD D 78 0 (D 19 0)) 78 1 ((sD D 78 0 (D 19 0)) 19 1)) 78 2 ((sD (sD D 78 0 (D 19 0)) 78 1 ((sD D 78 0 (D 19 0)) 19 1)) 19 2)) 19 3)) 19 4)) 20 79 0 0 4) 21 80 0 0 4) 22 81 0 0 4) 23 82 0 0 20)) 78 10 ((g_People_copyOf_83_24 (cD (cD (cD (cD (sD (sD (sD (sD (sD D 78 0 (D 19 0)) 78 1 ((sD D 78 0 (D 19 0)) 19 1)) 78 2 ((sD (sD D 78 0 (D 19 0)) 78 1 ((sD D 78 0 (D 19 0)) 19 1)) 19 2)) 78 3 ((sD (sD (sD D 78 0 (D 19 0)) 78 1 ((sD D 78 0 (D 19 0)) 19 1)) 78 2 ((sD (sD D 78 0 (D 19 0)) 78 1 ((sD D 78 0 (D 19 0)) 19 1)) 19 2)) 19 3)) 78 4 ((sD (sD (sD (sD D 78 0 (D 19 0)) 78 1 ((sD D 78 0 (D 19 0)) 19 1)) 78 2 ((sD (sD D 78 0 (D 19 0)) 78 1 ((sD D 78 0 (D 19 0)) 19 1)) 19 2)) 78 3 ((sD (sD (sD D 78 0 (D 19 0)) 78 1 ((sD D 78 0 (D 19 0)) 19 1)) 78 2 ((sD (sD D 78 0 (D 19 0)) 78 1 ((sD D 78 0 (D 19 0)) 19 1)) 19 2)) 19 3)) 19 4)) 20 79 0 0 4) 21 80 0 0 4) 22 81 0 0 4) 23 82 0 0 20)) 19 10)) 31 90 0 0 8) 78 12 ((cD (sD (g_People_copyOf_83_24 (cD (cD (cD (cD (sD (sD (sD (sD (sD D 78 0 (D 19 0)) 78 1 ((sD D 78 0 (D 19 0)) 19 1)) 78 2 ((sD (sD D 78 0 (D 19 0)) 78 1 ((sD D 78 0 (D 19 0)) 19 1)) 19 2)) 78 3 ((sD (sD (sD D 78 0 (D 19 0)) 78 1 ((sD D 78 0 (D 19 0)) 19 1)) 78 2 ((sD (sD D 78 0 (D 19 0)) 78 1 ((sD D 78 0 (D 19 0)) 19 1)) 19 2)) 19 3)) 78 4 ((sD (sD (sD (sD D 78 0 (D 19 0)) 78 1 ((sD D 78 0 (D 19 0)) 19 1)) 78 2 ((sD (sD D 78 0 (D 19 0)) 78 1 ((sD D 78 0 (D 19 0)) 19 1)) 19 2)) 78 3 ((sD (sD (sD D 78 0 (D 19 0)) 78 1 ((sD D 78 0 (D 19 0)) 19 1)) 78 2 ((sD (sD D 78 0 (D 19 0)) 78 1 ((sD D 78 0 (D 19 0)) 19 1)) 19 2)) 19 3)) 19 4)) 20 79 0 0 4) 21 80 0 0 4) 22 81 0 0 4) 23 82 0 0 20)) 78 10 ((g_People_copyOf_83_24 (cD (cD (cD (cD (sD (sD (sD (sD (sD D 78 0 (D 19 0)) 78 1 ((sD D 78 0 (D 19 0)) 19 1)) 78 2 ((sD (sD D 78 0 (D 19 0)) 78 1 ((sD D 78 0 (D 19 0)) 19 1)) 19 2)) 78 3 ((sD (sD (sD D 78 0 (D 19 0)) 78 1 ((sD D 78 0 (D 19 0)) 19 1)) 78 2 ((sD (sD D 78 0 (D 19 0)) 78 1 ((sD D 78 0 (D 19 0)) 19 1)) 19 2)) 19 3)) 78 4 ((sD (sD (sD (sD D 78 0 (D 19 0)) 78 1 ((sD D 78 0 (D 19 0)) 19 1)) 78 2 ((sD (sD D 78 0 (D 19 0)) 78 1 ((sD D 78 0 (D 19 0)) 19 1)) 19 2)) 78 3 ((sD (sD (sD D 78 0 (D 19 0)) 78 1 ((sD D 78 0 (D 19 0)) 19 1)) 78 2 ((sD (sD D 78 0 (D 19 0)) 78 1 ((sD D 78 0 (D 19 0)) 19 1)) 19 2)) 19 3)) 19 4)) 20 79 0 0 4) 21 80 0 0 4) 22 81 0 0 4) 23 82 0 0 20)) 19 10)) 31 90 0 0 8) 19 12)) 32 91 0 0 5) 33 92 0 0 5)))
set_option maxRecDepth 100000 in
set_option maxHeartbeats 4000000 in
theorem t_Church_copyOf_78_19 (X : ev_X) (d : Nat) (hd : 2 ≤ d + 1) (E : mx_E) (D : mx_D) (v : mx_D) (h : g_Church_copyOf_78_19 D = some v) : ev X (d + 1) 15 (0, [some (.ref 78), some (.ref 19)], [], D, E) (qR none v E) := by
  have hq : kq_m 15 = some kq_q15 := rfl
  unfold g_Church_copyOf_78_19 at h
  refine gv_n hq 15 (S' := (29, [some (.ref 78), some (.ref 19)], [.int ((sD (sD (sD D 78 0 (D 19 0)) 78 1 ((sD D 78 0 (D 19 0)) 19 1)) 78 2 ((sD (sD D 78 0 (D 19 0)) 78 1 ((sD D 78 0 (D 19 0)) 19 1)) 19 2)) 19 3), .ref 78], (sD (sD (sD D 78 0 (D 19 0)) 78 1 ((sD D 78 0 (D 19 0)) 19 1)) 78 2 ((sD (sD D 78 0 (D 19 0)) 78 1 ((sD D 78 0 (D 19 0)) 19 1)) 19 2)), E)) rfl ?_
  refine gv_zp hq rfl h (S' := (32, [some (.ref 78), some (.ref 19)], [], (sD (sD (sD (sD D 78 0 (D 19 0)) 78 1 ((sD D 78 0 (D 19 0)) 19 1)) 78 2 ((sD (sD D 78 0 (D 19 0)) 78 1 ((sD D 78 0 (D 19 0)) 19 1)) 19 2)) 78 3 ((sD (sD (sD D 78 0 (D 19 0)) 78 1 ((sD D 78 0 (D 19 0)) 19 1)) 78 2 ((sD (sD D 78 0 (D 19 0)) 78 1 ((sD D 78 0 (D 19 0)) 19 1)) 19 2)) 19 3)), E)) rfl (fun h => ?_)
  refine gv_n hq 40 (S' := (105, [some (.ref 78), some (.ref 19)], [.ref 24, .ref 83], (cD (cD (cD (cD (sD (sD (sD (sD (sD D 78 0 (D 19 0)) 78 1 ((sD D 78 0 (D 19 0)) 19 1)) 78 2 ((sD (sD D 78 0 (D 19 0)) 78 1 ((sD D 78 0 (D 19 0)) 19 1)) 19 2)) 78 3 ((sD (sD (sD D 78 0 (D 19 0)) 78 1 ((sD D 78 0 (D 19 0)) 19 1)) 78 2 ((sD (sD D 78 0 (D 19 0)) 78 1 ((sD D 78 0 (D 19 0)) 19 1)) 19 2)) 19 3)) 78 4 ((sD (sD (sD (sD D 78 0 (D 19 0)) 78 1 ((sD D 78 0 (D 19 0)) 19 1)) 78 2 ((sD (sD D 78 0 (D 19 0)) 78 1 ((sD D 78 0 (D 19 0)) 19 1)) 19 2)) 78 3 ((sD (sD (sD D 78 0 (D 19 0)) 78 1 ((sD D 78 0 (D 19 0)) 19 1)) 78 2 ((sD (sD D 78 0 (D 19 0)) 78 1 ((sD D 78 0 (D 19 0)) 19 1)) 19 2)) 19 3)) 19 4)) 20 79 0 0 4) 21 80 0 0 4) 22 81 0 0 4) 23 82 0 0 20), E)) rfl ?_
  refine gv_d hq rfl rfl rfl rfl rfl (gv_dd (by omega) (t_People_copyOf_83_24 X (d - 1) (by omega) E _ _ rfl)) (S' := (108, [some (.ref 78), some (.ref 19)], [], (g_People_copyOf_83_24 (cD (cD (cD (cD (sD (sD (sD (sD (sD D 78 0 (D 19 0)) 78 1 ((sD D 78 0 (D 19 0)) 19 1)) 78 2 ((sD (sD D 78 0 (D 19 0)) 78 1 ((sD D 78 0 (D 19 0)) 19 1)) 19 2)) 78 3 ((sD (sD (sD D 78 0 (D 19 0)) 78 1 ((sD D 78 0 (D 19 0)) 19 1)) 78 2 ((sD (sD D 78 0 (D 19 0)) 78 1 ((sD D 78 0 (D 19 0)) 19 1)) 19 2)) 19 3)) 78 4 ((sD (sD (sD (sD D 78 0 (D 19 0)) 78 1 ((sD D 78 0 (D 19 0)) 19 1)) 78 2 ((sD (sD D 78 0 (D 19 0)) 78 1 ((sD D 78 0 (D 19 0)) 19 1)) 19 2)) 78 3 ((sD (sD (sD D 78 0 (D 19 0)) 78 1 ((sD D 78 0 (D 19 0)) 19 1)) 78 2 ((sD (sD D 78 0 (D 19 0)) 78 1 ((sD D 78 0 (D 19 0)) 19 1)) 19 2)) 19 3)) 19 4)) 20 79 0 0 4) 21 80 0 0 4) 22 81 0 0 4) 23 82 0 0 20)), E)) rfl ?_
  refine gv_n hq 32 (S' := (167, [some (.ref 78), some (.ref 19)], [], (cD (cD (sD (cD (sD (g_People_copyOf_83_24 (cD (cD (cD (cD (sD (sD (sD (sD (sD D 78 0 (D 19 0)) 78 1 ((sD D 78 0 (D 19 0)) 19 1)) 78 2 ((sD (sD D 78 0 (D 19 0)) 78 1 ((sD D 78 0 (D 19 0)) 19 1)) 19 2)) 78 3 ((sD (sD (sD D 78 0 (D 19 0)) 78 1 ((sD D 78 0 (D 19 0)) 19 1)) 78 2 ((sD (sD D 78 0 (D 19 0)) 78 1 ((sD D 78 0 (D 19 0)) 19 1)) 19 2)) 19 3)) 78 4 ((sD (sD (sD (sD D 78 0 (D 19 0)) 78 1 ((sD D 78 0 (D 19 0)) 19 1)) 78 2 ((sD (sD D 78 0 (D 19 0)) 78 1 ((sD D 78 0 (D 19 0)) 19 1)) 19 2)) 78 3 ((sD (sD (sD D 78 0 (D 19 0)) 78 1 ((sD D 78 0 (D 19 0)) 19 1)) 78 2 ((sD (sD D 78 0 (D 19 0)) 78 1 ((sD D 78 0 (D 19 0)) 19 1)) 19 2)) 19 3)) 19 4)) 20 79 0 0 4) 21 80 0 0 4) 22 81 0 0 4) 23 82 0 0 20)) 78 10 ((g_People_copyOf_83_24 (cD (cD (cD (cD (sD (sD (sD (sD (sD D 78 0 (D 19 0)) 78 1 ((sD D 78 0 (D 19 0)) 19 1)) 78 2 ((sD (sD D 78 0 (D 19 0)) 78 1 ((sD D 78 0 (D 19 0)) 19 1)) 19 2)) 78 3 ((sD (sD (sD D 78 0 (D 19 0)) 78 1 ((sD D 78 0 (D 19 0)) 19 1)) 78 2 ((sD (sD D 78 0 (D 19 0)) 78 1 ((sD D 78 0 (D 19 0)) 19 1)) 19 2)) 19 3)) 78 4 ((sD (sD (sD (sD D 78 0 (D 19 0)) 78 1 ((sD D 78 0 (D 19 0)) 19 1)) 78 2 ((sD (sD D 78 0 (D 19 0)) 78 1 ((sD D 78 0 (D 19 0)) 19 1)) 19 2)) 78 3 ((sD (sD (sD D 78 0 (D 19 0)) 78 1 ((sD D 78 0 (D 19 0)) 19 1)) 78 2 ((sD (sD D 78 0 (D 19 0)) 78 1 ((sD D 78 0 (D 19 0)) 19 1)) 19 2)) 19 3)) 19 4)) 20 79 0 0 4) 21 80 0 0 4) 22 81 0 0 4) 23 82 0 0 20)) 19 10)) 31 90 0 0 8) 78 12 ((cD (sD (g_People_copyOf_83_24 (cD (cD (cD (cD (sD (sD (sD (sD (sD D 78 0 (D 19 0)) 78 1 ((sD D 78 0 (D 19 0)) 19 1)) 78 2 ((sD (sD D 78 0 (D 19 0)) 78 1 ((sD D 78 0 (D 19 0)) 19 1)) 19 2)) 78 3 ((sD (sD (sD D 78 0 (D 19 0)) 78 1 ((sD D 78 0 (D 19 0)) 19 1)) 78 2 ((sD (sD D 78 0 (D 19 0)) 78 1 ((sD D 78 0 (D 19 0)) 19 1)) 19 2)) 19 3)) 78 4 ((sD (sD (sD (sD D 78 0 (D 19 0)) 78 1 ((sD D 78 0 (D 19 0)) 19 1)) 78 2 ((sD (sD D 78 0 (D 19 0)) 78 1 ((sD D 78 0 (D 19 0)) 19 1)) 19 2)) 78 3 ((sD (sD (sD D 78 0 (D 19 0)) 78 1 ((sD D 78 0 (D 19 0)) 19 1)) 78 2 ((sD (sD D 78 0 (D 19 0)) 78 1 ((sD D 78 0 (D 19 0)) 19 1)) 19 2)) 19 3)) 19 4)) 20 79 0 0 4) 21 80 0 0 4) 22 81 0 0 4) 23 82 0 0 20)) 78 10 ((g_People_copyOf_83_24 (cD (cD (cD (cD (sD (sD (sD (sD (sD D 78 0 (D 19 0)) 78 1 ((sD D 78 0 (D 19 0)) 19 1)) 78 2 ((sD (sD D 78 0 (D 19 0)) 78 1 ((sD D 78 0 (D 19 0)) 19 1)) 19 2)) 78 3 ((sD (sD (sD D 78 0 (D 19 0)) 78 1 ((sD D 78 0 (D 19 0)) 19 1)) 78 2 ((sD (sD D 78 0 (D 19 0)) 78 1 ((sD D 78 0 (D 19 0)) 19 1)) 19 2)) 19 3)) 78 4 ((sD (sD (sD (sD D 78 0 (D 19 0)) 78 1 ((sD D 78 0 (D 19 0)) 19 1)) 78 2 ((sD (sD D 78 0 (D 19 0)) 78 1 ((sD D 78 0 (D 19 0)) 19 1)) 19 2)) 78 3 ((sD (sD (sD D 78 0 (D 19 0)) 78 1 ((sD D 78 0 (D 19 0)) 19 1)) 78 2 ((sD (sD D 78 0 (D 19 0)) 78 1 ((sD D 78 0 (D 19 0)) 19 1)) 19 2)) 19 3)) 19 4)) 20 79 0 0 4) 21 80 0 0 4) 22 81 0 0 4) 23 82 0 0 20)) 19 10)) 31 90 0 0 8) 19 12)) 32 91 0 0 5) 33 92 0 0 5), E)) rfl ?_
  cases h
  exact ev_ret hq rfl rfl ⟨rfl, rfl, rfl⟩
def g_People_copyOf_98_24 (D : mx_D) : mx_D := (sD (cD (cD (cD (cD (cD (cD D 25 99 0 0 8) 26 100 0 0 8) 27 101 0 0 8) 28 102 0 0 8) 29 103 0 0 8) 30 104 0 0 8) 98 6 ((cD (cD (cD (cD (cD (cD D 25 99 0 0 8) 26 100 0 0 8) 27 101 0 0 8) 28 102 0 0 8) 29 103 0 0 8) 30 104 0 0 8) 24 6))
set_option maxRecDepth 100000 in
set_option maxHeartbeats 4000000 in
theorem t_People_copyOf_98_24 (X : ev_X) (d : Nat) (hd : 1 ≤ d + 1) (E : mx_E) (D : mx_D) (v : mx_D) (h : g_People_copyOf_98_24 D = v) : ev X (d + 1) 56 (0, [some (.ref 98), some (.ref 24)], [], D, E) (qR none v E) := by
  have hq : kq_m 56 = some kq_q56 := rfl
  unfold g_People_copyOf_98_24 at h
  refine gv_n hq 52 (S' := (98, [some (.ref 98), some (.ref 24)], [], (sD (cD (cD (cD (cD (cD (cD D 25 99 0 0 8) 26 100 0 0 8) 27 101 0 0 8) 28 102 0 0 8) 29 103 0 0 8) 30 104 0 0 8) 98 6 ((cD (cD (cD (cD (cD (cD D 25 99 0 0 8) 26 100 0 0 8) 27 101 0 0 8) 28 102 0 0 8) 29 103 0 0 8) 30 104 0 0 8) 24 6)), E)) rfl ?_
  subst h
  exact ev_ret hq rfl rfl ⟨rfl, rfl, rfl⟩
def g_Church_copyOf_93_19 (D : mx_D) : Option (mx_D) := (zk ((sD (sD (sD D 93 0 (D 19 0)) 93 1 ((sD D 93 0 (D 19 0)) 19 1)) 93 2 ((sD (sD D 93 0 (D 19 0)) 93 1 ((sD D 93 0 (D 19 0)) 19 1)) 19 2)) 19 3) (some (cD (cD (sD (cD (sD (g_People_copyOf_98_24 (cD (cD (cD (cD (sD (sD (sD (sD (sD D 93 0 (D 19 0)) 93 1 ((sD D 93 0 (D 19 0)) 19 1)) 93 2 ((sD (sD D 93 0 (D 19 0)) 93 1 ((sD D 93 0 (D 19 0)) 19 1)) 19 2)) 93 3 ((sD (sD (sD D 93 0 (D 19 0)) 93 1 ((sD D 93 0 (D 19 0)) 19 1)) 93 2 ((sD (sD D 93 0 (D 19 0)) 93 1 ((sD D 93 0 (D 19 0)) 19 1)) 19 2)) 19 3)) 93 4 ((sD (sD (sD (sD D 93 0 (D 19 0)) 93 1 ((sD D 93 0 (D 19 0)) 19 1)) 93 2 ((sD (sD D 93 0 (D 19 0)) 93 1 ((sD D 93 0 (D 19 0)) 19 1)) 19 2)) 93 3 ((sD (sD (sD D 93 0 (D 19 0)) 93 1 ((sD D 93 0 (D 19 0)) 19 1)) 93 2 ((sD (sD D 93 0 (D 19 0)) 93 1 ((sD D 93 0 (D 19 0)) 19 1)) 19 2)) 19 3)) 19 4)) 20 94 0 0 4) 21 95 0 0 4) 22 96 0 0 4) 23 97 0 0 20)) 93 10 ((g_People_copyOf_98_24 (cD (cD (cD (cD (sD (sD (sD (sD (sD D 93 0 (D 19 0)) 93 1 ((sD D 93 0 (D 19 0)) 19 1)) 93 2 ((sD (sD D 93 0 (D 19 0)) 93 1 ((sD D 93 0 (D 19 0)) 19 1)) 19 2)) 93 3 ((sD (sD (sD D 93 0 (D 19 0)) 93 1 ((sD D 93 0 (D 19 0)) 19 1)) 93 2 ((sD (sD D 93 0 (D 19 0)) 93 1 ((sD D 93 0 (D 19 0)) 19 1)) 19 2)) 19 3)) 93 4 ((sD (sD (sD (sD D 93 0 (D 19 0)) 93 1 ((sD D 93 0 (D 19 0)) 19 1)) 93 2 ((sD (sD D 93 0 (D 19 0)) 93 1 ((sD D 93 0 (D 19 0)) 19 1)) 19 2)) 93 3 ((sD (sD (sD D 93 0 (D 19 0)) 93 1 ((sD D 93 0 (D 19 0)) 19 1)) 93 2 ((sD (sD D 93 0 (D 19 0)) 93 1 ((sD D 93 0 (D 19 0)) 19 1)) 19 2)) 19 3)) 19 4)) 20 94 0 0 4) 21 95 0 0 4) 22 96 0 0 4) 23 97 0 0 20)) 19 10)) 31 105 0 0 8) 93 12 ((cD (sD (g_People_copyOf_98_24 (cD (cD (cD (cD (sD (sD (sD (sD (sD D 93 0 (D 19 0)) 93 1 ((sD D 93 0 (D 19 0)) 19 1)) 93 2 ((sD (sD D 93 0 (D 19 0)) 93 1 ((sD D 93 0 (D 19 0)) 19 1)) 19 2)) 93 3 ((sD (sD (sD D 93 0 (D 19 0)) 93 1 ((sD D 93 0 (D 19 0)) 19 1)) 93 2 ((sD (sD D 93 0 (D 19 0)) 93 1 ((sD D 93 0 (D 19 0)) 19 1)) 19 2)) 19 3)) 93 4 ((sD (sD (sD (sD D 93 0 (D 19 0)) 93 1 ((sD D 93 0 (D 19 0)) 19 1)) 93 2 ((sD (sD D 93 0 (D 19 0)) 93 1 ((sD D 93 0 (D 19 0)) 19 1)) 19 2)) 93 3 ((sD (sD (sD D 93 0 (D 19 0)) 93 1 ((sD D 93 0 (D 19 0)) 19 1)) 93 2 ((sD (sD D 93 0 (D 19 0)) 93 1 ((sD D 93 0 (D 19 0)) 19 1)) 19 2)) 19 3)) 19 4)) 20 94 0 0 4) 21 95 0 0 4) 22 96 0 0 4) 23 97 0 0 20)) 93 10 ((g_People_copyOf_98_24 (cD (cD (cD (cD (sD (sD (sD (sD (sD D 93 0 (D 19 0)) 93 1 ((sD D 93 0 (D 19 0)) 19 1)) 93 2 ((sD (sD D 93 0 (D 19 0)) 93 1 ((sD D 93 0 (D 19 0)) 19 1)) 19 2)) 93 3 ((sD (sD (sD D 93 0 (D 19 0)) 93 1 ((sD D 93 0 (D 19 0)) 19 1)) 93 2 ((sD (sD D 93 0 (D 19 0)) 93 1 ((sD D 93 0 (D 19 0)) 19 1)) 19 2)) 19 3)) 93 4 ((sD (sD (sD (sD D 93 0 (D 19 0)) 93 1 ((sD D 93 0 (D 19 0)) 19 1)) 93 2 ((sD (sD D 93 0 (D 19 0)) 93 1 ((sD D 93 0 (D 19 0)) 19 1)) 19 2)) 93 3 ((sD (sD (sD D 93 0 (D 19 0)) 93 1 ((sD D 93 0 (D 19 0)) 19 1)) 93 2 ((sD (sD D 93 0 (D 19 0)) 93 1 ((sD D 93 0 (D 19 0)) 19 1)) 19 2)) 19 3)) 19 4)) 20 94 0 0 4) 21 95 0 0 4) 22 96 0 0 4) 23 97 0 0 20)) 19 10)) 31 105 0 0 8) 19 12)) 32 106 0 0 5) 33 107 0 0 5)))
set_option maxRecDepth 100000 in
set_option maxHeartbeats 4000000 in
theorem t_Church_copyOf_93_19 (X : ev_X) (d : Nat) (hd : 2 ≤ d + 1) (E : mx_E) (D : mx_D) (v : mx_D) (h : g_Church_copyOf_93_19 D = some v) : ev X (d + 1) 15 (0, [some (.ref 93), some (.ref 19)], [], D, E) (qR none v E) := by
  have hq : kq_m 15 = some kq_q15 := rfl
  unfold g_Church_copyOf_93_19 at h
  refine gv_n hq 15 (S' := (29, [some (.ref 93), some (.ref 19)], [.int ((sD (sD (sD D 93 0 (D 19 0)) 93 1 ((sD D 93 0 (D 19 0)) 19 1)) 93 2 ((sD (sD D 93 0 (D 19 0)) 93 1 ((sD D 93 0 (D 19 0)) 19 1)) 19 2)) 19 3), .ref 93], (sD (sD (sD D 93 0 (D 19 0)) 93 1 ((sD D 93 0 (D 19 0)) 19 1)) 93 2 ((sD (sD D 93 0 (D 19 0)) 93 1 ((sD D 93 0 (D 19 0)) 19 1)) 19 2)), E)) rfl ?_
  refine gv_zp hq rfl h (S' := (32, [some (.ref 93), some (.ref 19)], [], (sD (sD (sD (sD D 93 0 (D 19 0)) 93 1 ((sD D 93 0 (D 19 0)) 19 1)) 93 2 ((sD (sD D 93 0 (D 19 0)) 93 1 ((sD D 93 0 (D 19 0)) 19 1)) 19 2)) 93 3 ((sD (sD (sD D 93 0 (D 19 0)) 93 1 ((sD D 93 0 (D 19 0)) 19 1)) 93 2 ((sD (sD D 93 0 (D 19 0)) 93 1 ((sD D 93 0 (D 19 0)) 19 1)) 19 2)) 19 3)), E)) rfl (fun h => ?_)
  refine gv_n hq 40 (S' := (105, [some (.ref 93), some (.ref 19)], [.ref 24, .ref 98], (cD (cD (cD (cD (sD (sD (sD (sD (sD D 93 0 (D 19 0)) 93 1 ((sD D 93 0 (D 19 0)) 19 1)) 93 2 ((sD (sD D 93 0 (D 19 0)) 93 1 ((sD D 93 0 (D 19 0)) 19 1)) 19 2)) 93 3 ((sD (sD (sD D 93 0 (D 19 0)) 93 1 ((sD D 93 0 (D 19 0)) 19 1)) 93 2 ((sD (sD D 93 0 (D 19 0)) 93 1 ((sD D 93 0 (D 19 0)) 19 1)) 19 2)) 19 3)) 93 4 ((sD (sD (sD (sD D 93 0 (D 19 0)) 93 1 ((sD D 93 0 (D 19 0)) 19 1)) 93 2 ((sD (sD D 93 0 (D 19 0)) 93 1 ((sD D 93 0 (D 19 0)) 19 1)) 19 2)) 93 3 ((sD (sD (sD D 93 0 (D 19 0)) 93 1 ((sD D 93 0 (D 19 0)) 19 1)) 93 2 ((sD (sD D 93 0 (D 19 0)) 93 1 ((sD D 93 0 (D 19 0)) 19 1)) 19 2)) 19 3)) 19 4)) 20 94 0 0 4) 21 95 0 0 4) 22 96 0 0 4) 23 97 0 0 20), E)) rfl ?_
  refine gv_d hq rfl rfl rfl rfl rfl (gv_dd (by omega) (t_People_copyOf_98_24 X (d - 1) (by omega) E _ _ rfl)) (S' := (108, [some (.ref 93), some (.ref 19)], [], (g_People_copyOf_98_24 (cD (cD (cD (cD (sD (sD (sD (sD (sD D 93 0 (D 19 0)) 93 1 ((sD D 93 0 (D 19 0)) 19 1)) 93 2 ((sD (sD D 93 0 (D 19 0)) 93 1 ((sD D 93 0 (D 19 0)) 19 1)) 19 2)) 93 3 ((sD (sD (sD D 93 0 (D 19 0)) 93 1 ((sD D 93 0 (D 19 0)) 19 1)) 93 2 ((sD (sD D 93 0 (D 19 0)) 93 1 ((sD D 93 0 (D 19 0)) 19 1)) 19 2)) 19 3)) 93 4 ((sD (sD (sD (sD D 93 0 (D 19 0)) 93 1 ((sD D 93 0 (D 19 0)) 19 1)) 93 2 ((sD (sD D 93 0 (D 19 0)) 93 1 ((sD D 93 0 (D 19 0)) 19 1)) 19 2)) 93 3 ((sD (sD (sD D 93 0 (D 19 0)) 93 1 ((sD D 93 0 (D 19 0)) 19 1)) 93 2 ((sD (sD D 93 0 (D 19 0)) 93 1 ((sD D 93 0 (D 19 0)) 19 1)) 19 2)) 19 3)) 19 4)) 20 94 0 0 4) 21 95 0 0 4) 22 96 0 0 4) 23 97 0 0 20)), E)) rfl ?_
  refine gv_n hq 32 (S' := (167, [some (.ref 93), some (.ref 19)], [], (cD (cD (sD (cD (sD (g_People_copyOf_98_24 (cD (cD (cD (cD (sD (sD (sD (sD (sD D 93 0 (D 19 0)) 93 1 ((sD D 93 0 (D 19 0)) 19 1)) 93 2 ((sD (sD D 93 0 (D 19 0)) 93 1 ((sD D 93 0 (D 19 0)) 19 1)) 19 2)) 93 3 ((sD (sD (sD D 93 0 (D 19 0)) 93 1 ((sD D 93 0 (D 19 0)) 19 1)) 93 2 ((sD (sD D 93 0 (D 19 0)) 93 1 ((sD D 93 0 (D 19 0)) 19 1)) 19 2)) 19 3)) 93 4 ((sD (sD (sD (sD D 93 0 (D 19 0)) 93 1 ((sD D 93 0 (D 19 0)) 19 1)) 93 2 ((sD (sD D 93 0 (D 19 0)) 93 1 ((sD D 93 0 (D 19 0)) 19 1)) 19 2)) 93 3 ((sD (sD (sD D 93 0 (D 19 0)) 93 1 ((sD D 93 0 (D 19 0)) 19 1)) 93 2 ((sD (sD D 93 0 (D 19 0)) 93 1 ((sD D 93 0 (D 19 0)) 19 1)) 19 2)) 19 3)) 19 4)) 20 94 0 0 4) 21 95 0 0 4) 22 96 0 0 4) 23 97 0 0 20)) 93 10 ((g_People_copyOf_98_24 (cD (cD (cD (cD (sD (sD (sD (sD (sD D 93 0 (D 19 0)) 93 1 ((sD D 93 0 (D 19 0)) 19 1)) 93 2 ((sD (sD D 93 0 (D 19 0)) 93 1 ((sD D 93 0 (D 19 0)) 19 1)) 19 2)) 93 3 ((sD (sD (sD D 93 0 (D 19 0)) 93 1 ((sD D 93 0 (D 19 0)) 19 1)) 93 2 ((sD (sD D 93 0 (D 19 0)) 93 1 ((sD D 93 0 (D 19 0)) 19 1)) 19 2)) 19 3)) 93 4 ((sD (sD (sD (sD D 93 0 (D 19 0)) 93 1 ((sD D 93 0 (D 19 0)) 19 1)) 93 2 ((sD (sD D 93 0 (D 19 0)) 93 1 ((sD D 93 0 (D 19 0)) 19 1)) 19 2)) 93 3 ((sD (sD (sD D 93 0 (D 19 0)) 93 1 ((sD D 93 0 (D 19 0)) 19 1)) 93 2 ((sD (sD D 93 0 (D 19 0)) 93 1 ((sD D 93 0 (D 19 0)) 19 1)) 19 2)) 19 3)) 19 4)) 20 94 0 0 4) 21 95 0 0 4) 22 96 0 0 4) 23 97 0 0 20)) 19 10)) 31 105 0 0 8) 93 12 ((cD (sD (g_People_copyOf_98_24 (cD (cD (cD (cD (sD (sD (sD (sD (sD D 93 0 (D 19 0)) 93 1 ((sD D 93 0 (D 19 0)) 19 1)) 93 2 ((sD (sD D 93 0 (D 19 0)) 93 1 ((sD D 93 0 (D 19 0)) 19 1)) 19 2)) 93 3 ((sD (sD (sD D 93 0 (D 19 0)) 93 1 ((sD D 93 0 (D 19 0)) 19 1)) 93 2 ((sD (sD D 93 0 (D 19 0)) 93 1 ((sD D 93 0 (D 19 0)) 19 1)) 19 2)) 19 3)) 93 4 ((sD (sD (sD (sD D 93 0 (D 19 0)) 93 1 ((sD D 93 0 (D 19 0)) 19 1)) 93 2 ((sD (sD D 93 0 (D 19 0)) 93 1 ((sD D 93 0 (D 19 0)) 19 1)) 19 2)) 93 3 ((sD (sD (sD D 93 0 (D 19 0)) 93 1 ((sD D 93 0 (D 19 0)) 19 1)) 93 2 ((sD (sD D 93 0 (D 19 0)) 93 1 ((sD D 93 0 (D 19 0)) 19 1)) 19 2)) 19 3)) 19 4)) 20 94 0 0 4) 21 95 0 0 4) 22 96 0 0 4) 23 97 0 0 20)) 93 10 ((g_People_copyOf_98_24 (cD (cD (cD (cD (sD (sD (sD (sD (sD D 93 0 (D 19 0)) 93 1 ((sD D 93 0 (D 19 0)) 19 1)) 93 2 ((sD (sD D 93 0 (D 19 0)) 93 1 ((sD D 93 0 (D 19 0)) 19 1)) 19 2)) 93 3 ((sD (sD (sD D 93 0 (D 19 0)) 93 1 ((sD D 93 0 (D 19 0)) 19 1)) 93 2 ((sD (sD D 93 0 (D 19 0)) 93 1 ((sD D 93 0 (D 19 0)) 19 1)) 19 2)) 19 3)) 93 4 ((sD (sD (sD (sD D 93 0 (D 19 0)) 93 1 ((sD D 93 0 (D 19 0)) 19 1)) 93 2 ((sD (sD D 93 0 (D 19 0)) 93 1 ((sD D 93 0 (D 19 0)) 19 1)) 19 2)) 93 3 ((sD (sD (sD D 93 0 (D 19 0)) 93 1 ((sD D 93 0 (D 19 0)) 19 1)) 93 2 ((sD (sD D 93 0 (D 19 0)) 93 1 ((sD D 93 0 (D 19 0)) 19 1)) 19 2)) 19 3)) 19 4)) 20 94 0 0 4) 21 95 0 0 4) 22 96 0 0 4) 23 97 0 0 20)) 19 10)) 31 105 0 0 8) 19 12)) 32 106 0 0 5) 33 107 0 0 5), E)) rfl ?_
  cases h
  exact ev_ret hq rfl rfl ⟨rfl, rfl, rfl⟩
def g_X_image (a1 : Int32) (D : mx_D) : Option (Int32 × mx_D) := (if a1 < 0 then (some ((-2 : Int32), D)) else (if a1 < (nI 3) then (if a1 = (nI 0) then (Option.bind (g_Church_copyOf_63_19 D) (fun r1 => (rk 3 a1 (some ((nI 0), (sD r1 61 (a1).toNatClampNeg (vp_nar .boolean (nI 1)))))))) else (if a1 = (nI 1) then (Option.bind (g_Church_copyOf_78_19 D) (fun r2 => (rk 3 a1 (some ((nI 0), (sD r2 61 (a1).toNatClampNeg (vp_nar .boolean (nI 1)))))))) else (if a1 = (nI 2) then (Option.bind (g_Church_copyOf_93_19 D) (fun r3 => (rk 3 a1 (some ((nI 0), (sD r3 61 (a1).toNatClampNeg (vp_nar .boolean (nI 1)))))))) else none))) else (some ((-2 : Int32), D))))
set_option maxRecDepth 100000 in
set_option maxHeartbeats 4000000 in
theorem t_X_image (X : ev_X) (d : Nat) (hd : 3 ≤ d + 1) (E : mx_E) (a1 : Int32) (D : mx_D) (v : Int32 × mx_D) (h : g_X_image a1 D = some v) : ev X (d + 1) 176 (0, [some (.ref 0), some (.int a1)], [], D, E) (qR (some (.int v.1)) v.2 E) := by
  have hq : kq_m 176 = some kq_q176 := rfl
  unfold g_X_image at h
  refine gv_n hq 1 (S' := (1, [some (.ref 0), some (.int a1)], [.int a1], D, E)) rfl ?_
  refine gv_b hq rfl h 9 4 rfl rfl rfl (fun h => ?_) (fun h => ?_)
  · refine gv_n hq 1 (S' := (11, [some (.ref 0), some (.int a1)], [.int (-2 : Int32)], D, E)) rfl ?_
    cases h
    exact ev_ret hq rfl rfl ⟨rfl, rfl, rfl⟩
  · refine gv_n hq 2 (S' := (6, [some (.ref 0), some (.int a1)], [.int (nI 3), .int a1], D, E)) rfl ?_
    refine gv_b hq rfl h 12 9 rfl rfl rfl (fun h => ?_) (fun h => ?_)
    · refine gv_n hq 3 (S' := (17, [some (.ref 0), some (.int a1)], [.int a1, .ref 60], D, E)) rfl ?_
      refine gv_if h (fun c0 h => ?_) (fun c0 h => ?_)
      · refine ev_ins hq rfl (S' := (18, [some (.ref 0), some (.int a1)], [.ref 63], D, E)) (gv_sw (fun z => ((17, [some (.ref 0), some (.int a1)], .int z :: [.ref 60], D, E) : mx_S)) c0 rfl) ?_
        refine gv_n hq 2 (S' := (22, [some (.ref 0), some (.int a1)], [.ref 19, .ref 63], D, E)) rfl ?_
        obtain ⟨r1, h1, h⟩ := Option.bind_eq_some_iff.mp h
        refine gv_d hq rfl rfl rfl rfl rfl (gv_dd (by omega) (t_Church_copyOf_63_19 X (d - 1) (by omega) E _ _ h1)) (S' := (25, [some (.ref 0), some (.int a1)], [], r1, E)) rfl ?_
        refine gv_n hq 4 (S' := (31, [some (.ref 0), some (.int a1)], [.int (nI 1), .int a1, .ref 61], r1, E)) rfl ?_
        refine gv_bs2 hq rfl rfl h 32 rfl (fun h => ?_)
        refine gv_n hq 1 (S' := (33, [some (.ref 0), some (.int a1)], [.int (nI 0)], (sD r1 61 (a1).toNatClampNeg (vp_nar .boolean (nI 1))), E)) rfl ?_
        cases h
        exact ev_ret hq rfl rfl ⟨rfl, rfl, rfl⟩
      · refine gv_if h (fun c1 h => ?_) (fun c1 h => ?_)
        · refine ev_ins hq rfl (S' := (18, [some (.ref 0), some (.int a1)], [.ref 78], D, E)) (gv_sw (fun z => ((17, [some (.ref 0), some (.int a1)], .int z :: [.ref 60], D, E) : mx_S)) c1 rfl) ?_
          refine gv_n hq 2 (S' := (22, [some (.ref 0), some (.int a1)], [.ref 19, .ref 78], D, E)) rfl ?_
          obtain ⟨r2, h1, h⟩ := Option.bind_eq_some_iff.mp h
          refine gv_d hq rfl rfl rfl rfl rfl (gv_dd (by omega) (t_Church_copyOf_78_19 X (d - 1) (by omega) E _ _ h1)) (S' := (25, [some (.ref 0), some (.int a1)], [], r2, E)) rfl ?_
          refine gv_n hq 4 (S' := (31, [some (.ref 0), some (.int a1)], [.int (nI 1), .int a1, .ref 61], r2, E)) rfl ?_
          refine gv_bs2 hq rfl rfl h 32 rfl (fun h => ?_)
          refine gv_n hq 1 (S' := (33, [some (.ref 0), some (.int a1)], [.int (nI 0)], (sD r2 61 (a1).toNatClampNeg (vp_nar .boolean (nI 1))), E)) rfl ?_
          cases h
          exact ev_ret hq rfl rfl ⟨rfl, rfl, rfl⟩
        · refine gv_if h (fun c2 h => ?_) (fun c2 h => ?_)
          · refine ev_ins hq rfl (S' := (18, [some (.ref 0), some (.int a1)], [.ref 93], D, E)) (gv_sw (fun z => ((17, [some (.ref 0), some (.int a1)], .int z :: [.ref 60], D, E) : mx_S)) c2 rfl) ?_
            refine gv_n hq 2 (S' := (22, [some (.ref 0), some (.int a1)], [.ref 19, .ref 93], D, E)) rfl ?_
            obtain ⟨r3, h1, h⟩ := Option.bind_eq_some_iff.mp h
            refine gv_d hq rfl rfl rfl rfl rfl (gv_dd (by omega) (t_Church_copyOf_93_19 X (d - 1) (by omega) E _ _ h1)) (S' := (25, [some (.ref 0), some (.int a1)], [], r3, E)) rfl ?_
            refine gv_n hq 4 (S' := (31, [some (.ref 0), some (.int a1)], [.int (nI 1), .int a1, .ref 61], r3, E)) rfl ?_
            refine gv_bs2 hq rfl rfl h 32 rfl (fun h => ?_)
            refine gv_n hq 1 (S' := (33, [some (.ref 0), some (.int a1)], [.int (nI 0)], (sD r3 61 (a1).toNatClampNeg (vp_nar .boolean (nI 1))), E)) rfl ?_
            cases h
            exact ev_ret hq rfl rfl ⟨rfl, rfl, rfl⟩
          · cases h
    · refine gv_n hq 1 (S' := (11, [some (.ref 0), some (.int a1)], [.int (-2 : Int32)], D, E)) rfl ?_
      cases h
      exact ev_ret hq rfl rfl ⟨rfl, rfl, rfl⟩
def b_M_image_17 (F : Nat) (k17 : Int32 → Int32 → mx_D → Option (Int32 × mx_D)) (l1 : Int32) (l2 : Int32) (D : mx_D) : Option (Int32 × mx_D) := (if (nI 106) ≤ l2 then (rk 3 l1 (some ((nI 0), (sD D 119 (l1).toNatClampNeg (vp_nar .boolean (nI 1)))))) else (rk 106 l2 (rk 318 (((nI 106) * l1) + l2) (k17 l1 (l2 + (nI 1)) (sD D 118 ((((nI 106) * l1) + l2)).toNatClampNeg (D 117 (l2).toNatClampNeg))))))
set_option maxRecDepth 100000 in
set_option maxHeartbeats 4000000 in
theorem tb_M_image_17 (X : ev_X) (F : Nat) (d : Nat) (hd : 1 ≤ d + 1) (E : mx_E) (k17 : Int32 → Int32 → mx_D → Option (Int32 × mx_D)) (K17 : ∀ (l1 : Int32) (l2 : Int32) (D : mx_D) (v : Int32 × mx_D), k17 l1 l2 D = some v → ev X (d + 1) 182 (17, [some (.ref 116), some (.int l1), some (.int l2)], [], D, E) (qR (some (.int v.1)) v.2 E)) (l1 : Int32) (l2 : Int32) (D : mx_D) (v : Int32 × mx_D) (h : b_M_image_17 F k17 l1 l2 D = some v) : ev X (d + 1) 182 (17, [some (.ref 116), some (.int l1), some (.int l2)], [], D, E) (qR (some (.int v.1)) v.2 E) := by
  have hq : kq_m 182 = some kq_q182 := rfl
  unfold b_M_image_17 at h
  refine gv_n hq 2 (S' := (20, [some (.ref 116), some (.int l1), some (.int l2)], [.int (nI 106), .int l2], D, E)) rfl ?_
  refine gv_b hq rfl h 46 23 rfl rfl rfl (fun h => ?_) (fun h => ?_)
  · refine gv_n hq 4 (S' := (52, [some (.ref 116), some (.int l1), some (.int l2)], [.int (nI 1), .int l1, .ref 119], D, E)) rfl ?_
    refine gv_bs2 hq rfl rfl h 53 rfl (fun h => ?_)
    refine gv_n hq 1 (S' := (54, [some (.ref 116), some (.int l1), some (.int l2)], [.int (nI 0)], (sD D 119 (l1).toNatClampNeg (vp_nar .boolean (nI 1))), E)) rfl ?_
    cases h
    exact ev_ret hq rfl rfl ⟨rfl, rfl, rfl⟩
  · refine gv_n hq 10 (S' := (38, [some (.ref 116), some (.int l1), some (.int l2)], [.int l2, .ref 117, .int (((nI 106) * l1) + l2), .ref 118], D, E)) rfl ?_
    refine gv_ia hq rfl rfl rfl h 39 rfl (fun h => ?_)
    refine gv_is hq rfl rfl h 40 rfl (fun h => ?_)
    refine gv_n hq 2 (S' := (17, [some (.ref 116), some (.int l1), some (.int (l2 + (nI 1)))], [], (sD D 118 ((((nI 106) * l1) + l2)).toNatClampNeg (D 117 (l2).toNatClampNeg)), E)) rfl ?_
    exact gv_w (K17 _ _ _ _ h) (And.intro rfl (And.intro rfl (And.intro rfl trivial)))
def g_M_image_17 (F : Nat) : Nat → Int32 → Int32 → mx_D → Option (Int32 × mx_D) := it (fun k17 => b_M_image_17 F k17) (fun _ _ _ => none)
set_option maxRecDepth 100000 in
set_option maxHeartbeats 4000000 in
theorem t_M_image_17 (X : ev_X) (F : Nat) (d : Nat) (hd : 1 ≤ d + 1) (E : mx_E)  : ∀ (n : Nat) (l1 : Int32) (l2 : Int32) (D : mx_D) (v : Int32 × mx_D), g_M_image_17 F n l1 l2 D = some v → ev X (d + 1) 182 (17, [some (.ref 116), some (.int l1), some (.int l2)], [], D, E) (qR (some (.int v.1)) v.2 E) := by
  intro n
  induction n with
  | zero => intro l1 l2 D v h; cases h
  | succ n ih => intro l1 l2 D v h; exact tb_M_image_17 X F d hd E (g_M_image_17 F n) ih l1 l2 D v h
def g_M_image (F : Nat) (a1 : Int32) (D : mx_D) : Option (Int32 × mx_D) := (if (g_M_in ((a1).toInt64) (lN 0) (2 : Int64)) = 0 then (some ((-2 : Int32), D)) else (g_M_image_17 F F a1 (nI 0) D))
set_option maxRecDepth 100000 in
set_option maxHeartbeats 4000000 in
theorem t_M_image (X : ev_X) (F : Nat) (d : Nat) (hd : 1 ≤ d + 1) (E : mx_E) (a1 : Int32) (D : mx_D) (v : Int32 × mx_D) (h : g_M_image F a1 D = some v) : ev X (d + 1) 182 (0, [some (.ref 116), some (.int a1), none], [], D, E) (qR (some (.int v.1)) v.2 E) := by
  have hq : kq_m 182 = some kq_q182 := rfl
  unfold g_M_image at h
  refine gv_n hq 4 (S' := (6, [some (.ref 116), some (.int a1), none], [.long (2 : Int64), .long (lN 0), .long ((a1).toInt64)], D, E)) rfl ?_
  refine gv_d hq rfl rfl rfl rfl rfl ((t_M_in X d D E _ _ _ _ rfl)) (S' := (9, [some (.ref 116), some (.int a1), none], [.int (g_M_in ((a1).toInt64) (lN 0) (2 : Int64))], D, E)) rfl ?_
  refine gv_b hq rfl h 12 15 rfl rfl rfl (fun h => ?_) (fun h => ?_)
  · refine gv_n hq 1 (S' := (14, [some (.ref 116), some (.int a1), none], [.int (-2 : Int32)], D, E)) rfl ?_
    cases h
    exact ev_ret hq rfl rfl ⟨rfl, rfl, rfl⟩
  · refine gv_n hq 2 (S' := (17, [some (.ref 116), some (.int a1), some (.int (nI 0))], [], D, E)) rfl ?_
    exact gv_w (t_M_image_17 X F d hd E F _ _ _ _ h) (And.intro rfl (And.intro rfl (And.intro rfl trivial)))
def g_People_copyOf_68 (D : mx_D) : mx_D := (sD (cD (cD (cD (cD (cD (cD D 69 25 0 0 8) 70 26 0 0 8) 71 27 0 0 8) 72 28 0 0 8) 73 29 0 0 8) 74 30 0 0 8) 24 6 ((cD (cD (cD (cD (cD (cD D 69 25 0 0 8) 70 26 0 0 8) 71 27 0 0 8) 72 28 0 0 8) 73 29 0 0 8) 74 30 0 0 8) 68 6))
set_option maxRecDepth 100000 in
set_option maxHeartbeats 4000000 in
theorem t_People_copyOf_68 (X : ev_X) (d : Nat) (hd : 1 ≤ d + 1) (E : mx_E) (D : mx_D) (v : mx_D) (h : g_People_copyOf_68 D = v) : ev X (d + 1) 56 (0, [some (.ref 24), some (.ref 68)], [], D, E) (qR none v E) := by
  have hq : kq_m 56 = some kq_q56 := rfl
  unfold g_People_copyOf_68 at h
  refine gv_n hq 52 (S' := (98, [some (.ref 24), some (.ref 68)], [], (sD (cD (cD (cD (cD (cD (cD D 69 25 0 0 8) 70 26 0 0 8) 71 27 0 0 8) 72 28 0 0 8) 73 29 0 0 8) 74 30 0 0 8) 24 6 ((cD (cD (cD (cD (cD (cD D 69 25 0 0 8) 70 26 0 0 8) 71 27 0 0 8) 72 28 0 0 8) 73 29 0 0 8) 74 30 0 0 8) 68 6)), E)) rfl ?_
  subst h
  exact ev_ret hq rfl rfl ⟨rfl, rfl, rfl⟩
def g_Church_copyOf_63 (D : mx_D) : Option (mx_D) := (zk ((sD (sD (sD D 19 0 (D 63 0)) 19 1 ((sD D 19 0 (D 63 0)) 63 1)) 19 2 ((sD (sD D 19 0 (D 63 0)) 19 1 ((sD D 19 0 (D 63 0)) 63 1)) 63 2)) 63 3) (some (cD (cD (sD (cD (sD (g_People_copyOf_68 (cD (cD (cD (cD (sD (sD (sD (sD (sD D 19 0 (D 63 0)) 19 1 ((sD D 19 0 (D 63 0)) 63 1)) 19 2 ((sD (sD D 19 0 (D 63 0)) 19 1 ((sD D 19 0 (D 63 0)) 63 1)) 63 2)) 19 3 ((sD (sD (sD D 19 0 (D 63 0)) 19 1 ((sD D 19 0 (D 63 0)) 63 1)) 19 2 ((sD (sD D 19 0 (D 63 0)) 19 1 ((sD D 19 0 (D 63 0)) 63 1)) 63 2)) 63 3)) 19 4 ((sD (sD (sD (sD D 19 0 (D 63 0)) 19 1 ((sD D 19 0 (D 63 0)) 63 1)) 19 2 ((sD (sD D 19 0 (D 63 0)) 19 1 ((sD D 19 0 (D 63 0)) 63 1)) 63 2)) 19 3 ((sD (sD (sD D 19 0 (D 63 0)) 19 1 ((sD D 19 0 (D 63 0)) 63 1)) 19 2 ((sD (sD D 19 0 (D 63 0)) 19 1 ((sD D 19 0 (D 63 0)) 63 1)) 63 2)) 63 3)) 63 4)) 64 20 0 0 4) 65 21 0 0 4) 66 22 0 0 4) 67 23 0 0 20)) 19 10 ((g_People_copyOf_68 (cD (cD (cD (cD (sD (sD (sD (sD (sD D 19 0 (D 63 0)) 19 1 ((sD D 19 0 (D 63 0)) 63 1)) 19 2 ((sD (sD D 19 0 (D 63 0)) 19 1 ((sD D 19 0 (D 63 0)) 63 1)) 63 2)) 19 3 ((sD (sD (sD D 19 0 (D 63 0)) 19 1 ((sD D 19 0 (D 63 0)) 63 1)) 19 2 ((sD (sD D 19 0 (D 63 0)) 19 1 ((sD D 19 0 (D 63 0)) 63 1)) 63 2)) 63 3)) 19 4 ((sD (sD (sD (sD D 19 0 (D 63 0)) 19 1 ((sD D 19 0 (D 63 0)) 63 1)) 19 2 ((sD (sD D 19 0 (D 63 0)) 19 1 ((sD D 19 0 (D 63 0)) 63 1)) 63 2)) 19 3 ((sD (sD (sD D 19 0 (D 63 0)) 19 1 ((sD D 19 0 (D 63 0)) 63 1)) 19 2 ((sD (sD D 19 0 (D 63 0)) 19 1 ((sD D 19 0 (D 63 0)) 63 1)) 63 2)) 63 3)) 63 4)) 64 20 0 0 4) 65 21 0 0 4) 66 22 0 0 4) 67 23 0 0 20)) 63 10)) 75 31 0 0 8) 19 12 ((cD (sD (g_People_copyOf_68 (cD (cD (cD (cD (sD (sD (sD (sD (sD D 19 0 (D 63 0)) 19 1 ((sD D 19 0 (D 63 0)) 63 1)) 19 2 ((sD (sD D 19 0 (D 63 0)) 19 1 ((sD D 19 0 (D 63 0)) 63 1)) 63 2)) 19 3 ((sD (sD (sD D 19 0 (D 63 0)) 19 1 ((sD D 19 0 (D 63 0)) 63 1)) 19 2 ((sD (sD D 19 0 (D 63 0)) 19 1 ((sD D 19 0 (D 63 0)) 63 1)) 63 2)) 63 3)) 19 4 ((sD (sD (sD (sD D 19 0 (D 63 0)) 19 1 ((sD D 19 0 (D 63 0)) 63 1)) 19 2 ((sD (sD D 19 0 (D 63 0)) 19 1 ((sD D 19 0 (D 63 0)) 63 1)) 63 2)) 19 3 ((sD (sD (sD D 19 0 (D 63 0)) 19 1 ((sD D 19 0 (D 63 0)) 63 1)) 19 2 ((sD (sD D 19 0 (D 63 0)) 19 1 ((sD D 19 0 (D 63 0)) 63 1)) 63 2)) 63 3)) 63 4)) 64 20 0 0 4) 65 21 0 0 4) 66 22 0 0 4) 67 23 0 0 20)) 19 10 ((g_People_copyOf_68 (cD (cD (cD (cD (sD (sD (sD (sD (sD D 19 0 (D 63 0)) 19 1 ((sD D 19 0 (D 63 0)) 63 1)) 19 2 ((sD (sD D 19 0 (D 63 0)) 19 1 ((sD D 19 0 (D 63 0)) 63 1)) 63 2)) 19 3 ((sD (sD (sD D 19 0 (D 63 0)) 19 1 ((sD D 19 0 (D 63 0)) 63 1)) 19 2 ((sD (sD D 19 0 (D 63 0)) 19 1 ((sD D 19 0 (D 63 0)) 63 1)) 63 2)) 63 3)) 19 4 ((sD (sD (sD (sD D 19 0 (D 63 0)) 19 1 ((sD D 19 0 (D 63 0)) 63 1)) 19 2 ((sD (sD D 19 0 (D 63 0)) 19 1 ((sD D 19 0 (D 63 0)) 63 1)) 63 2)) 19 3 ((sD (sD (sD D 19 0 (D 63 0)) 19 1 ((sD D 19 0 (D 63 0)) 63 1)) 19 2 ((sD (sD D 19 0 (D 63 0)) 19 1 ((sD D 19 0 (D 63 0)) 63 1)) 63 2)) 63 3)) 63 4)) 64 20 0 0 4) 65 21 0 0 4) 66 22 0 0 4) 67 23 0 0 20)) 63 10)) 75 31 0 0 8) 63 12)) 76 32 0 0 5) 77 33 0 0 5)))
set_option maxRecDepth 100000 in
set_option maxHeartbeats 4000000 in
theorem t_Church_copyOf_63 (X : ev_X) (d : Nat) (hd : 2 ≤ d + 1) (E : mx_E) (D : mx_D) (v : mx_D) (h : g_Church_copyOf_63 D = some v) : ev X (d + 1) 15 (0, [some (.ref 19), some (.ref 63)], [], D, E) (qR none v E) := by
  have hq : kq_m 15 = some kq_q15 := rfl
  unfold g_Church_copyOf_63 at h
  refine gv_n hq 15 (S' := (29, [some (.ref 19), some (.ref 63)], [.int ((sD (sD (sD D 19 0 (D 63 0)) 19 1 ((sD D 19 0 (D 63 0)) 63 1)) 19 2 ((sD (sD D 19 0 (D 63 0)) 19 1 ((sD D 19 0 (D 63 0)) 63 1)) 63 2)) 63 3), .ref 19], (sD (sD (sD D 19 0 (D 63 0)) 19 1 ((sD D 19 0 (D 63 0)) 63 1)) 19 2 ((sD (sD D 19 0 (D 63 0)) 19 1 ((sD D 19 0 (D 63 0)) 63 1)) 63 2)), E)) rfl ?_
  refine gv_zp hq rfl h (S' := (32, [some (.ref 19), some (.ref 63)], [], (sD (sD (sD (sD D 19 0 (D 63 0)) 19 1 ((sD D 19 0 (D 63 0)) 63 1)) 19 2 ((sD (sD D 19 0 (D 63 0)) 19 1 ((sD D 19 0 (D 63 0)) 63 1)) 63 2)) 19 3 ((sD (sD (sD D 19 0 (D 63 0)) 19 1 ((sD D 19 0 (D 63 0)) 63 1)) 19 2 ((sD (sD D 19 0 (D 63 0)) 19 1 ((sD D 19 0 (D 63 0)) 63 1)) 63 2)) 63 3)), E)) rfl (fun h => ?_)
  refine gv_n hq 40 (S' := (105, [some (.ref 19), some (.ref 63)], [.ref 68, .ref 24], (cD (cD (cD (cD (sD (sD (sD (sD (sD D 19 0 (D 63 0)) 19 1 ((sD D 19 0 (D 63 0)) 63 1)) 19 2 ((sD (sD D 19 0 (D 63 0)) 19 1 ((sD D 19 0 (D 63 0)) 63 1)) 63 2)) 19 3 ((sD (sD (sD D 19 0 (D 63 0)) 19 1 ((sD D 19 0 (D 63 0)) 63 1)) 19 2 ((sD (sD D 19 0 (D 63 0)) 19 1 ((sD D 19 0 (D 63 0)) 63 1)) 63 2)) 63 3)) 19 4 ((sD (sD (sD (sD D 19 0 (D 63 0)) 19 1 ((sD D 19 0 (D 63 0)) 63 1)) 19 2 ((sD (sD D 19 0 (D 63 0)) 19 1 ((sD D 19 0 (D 63 0)) 63 1)) 63 2)) 19 3 ((sD (sD (sD D 19 0 (D 63 0)) 19 1 ((sD D 19 0 (D 63 0)) 63 1)) 19 2 ((sD (sD D 19 0 (D 63 0)) 19 1 ((sD D 19 0 (D 63 0)) 63 1)) 63 2)) 63 3)) 63 4)) 64 20 0 0 4) 65 21 0 0 4) 66 22 0 0 4) 67 23 0 0 20), E)) rfl ?_
  refine gv_d hq rfl rfl rfl rfl rfl (gv_dd (by omega) (t_People_copyOf_68 X (d - 1) (by omega) E _ _ rfl)) (S' := (108, [some (.ref 19), some (.ref 63)], [], (g_People_copyOf_68 (cD (cD (cD (cD (sD (sD (sD (sD (sD D 19 0 (D 63 0)) 19 1 ((sD D 19 0 (D 63 0)) 63 1)) 19 2 ((sD (sD D 19 0 (D 63 0)) 19 1 ((sD D 19 0 (D 63 0)) 63 1)) 63 2)) 19 3 ((sD (sD (sD D 19 0 (D 63 0)) 19 1 ((sD D 19 0 (D 63 0)) 63 1)) 19 2 ((sD (sD D 19 0 (D 63 0)) 19 1 ((sD D 19 0 (D 63 0)) 63 1)) 63 2)) 63 3)) 19 4 ((sD (sD (sD (sD D 19 0 (D 63 0)) 19 1 ((sD D 19 0 (D 63 0)) 63 1)) 19 2 ((sD (sD D 19 0 (D 63 0)) 19 1 ((sD D 19 0 (D 63 0)) 63 1)) 63 2)) 19 3 ((sD (sD (sD D 19 0 (D 63 0)) 19 1 ((sD D 19 0 (D 63 0)) 63 1)) 19 2 ((sD (sD D 19 0 (D 63 0)) 19 1 ((sD D 19 0 (D 63 0)) 63 1)) 63 2)) 63 3)) 63 4)) 64 20 0 0 4) 65 21 0 0 4) 66 22 0 0 4) 67 23 0 0 20)), E)) rfl ?_
  refine gv_n hq 32 (S' := (167, [some (.ref 19), some (.ref 63)], [], (cD (cD (sD (cD (sD (g_People_copyOf_68 (cD (cD (cD (cD (sD (sD (sD (sD (sD D 19 0 (D 63 0)) 19 1 ((sD D 19 0 (D 63 0)) 63 1)) 19 2 ((sD (sD D 19 0 (D 63 0)) 19 1 ((sD D 19 0 (D 63 0)) 63 1)) 63 2)) 19 3 ((sD (sD (sD D 19 0 (D 63 0)) 19 1 ((sD D 19 0 (D 63 0)) 63 1)) 19 2 ((sD (sD D 19 0 (D 63 0)) 19 1 ((sD D 19 0 (D 63 0)) 63 1)) 63 2)) 63 3)) 19 4 ((sD (sD (sD (sD D 19 0 (D 63 0)) 19 1 ((sD D 19 0 (D 63 0)) 63 1)) 19 2 ((sD (sD D 19 0 (D 63 0)) 19 1 ((sD D 19 0 (D 63 0)) 63 1)) 63 2)) 19 3 ((sD (sD (sD D 19 0 (D 63 0)) 19 1 ((sD D 19 0 (D 63 0)) 63 1)) 19 2 ((sD (sD D 19 0 (D 63 0)) 19 1 ((sD D 19 0 (D 63 0)) 63 1)) 63 2)) 63 3)) 63 4)) 64 20 0 0 4) 65 21 0 0 4) 66 22 0 0 4) 67 23 0 0 20)) 19 10 ((g_People_copyOf_68 (cD (cD (cD (cD (sD (sD (sD (sD (sD D 19 0 (D 63 0)) 19 1 ((sD D 19 0 (D 63 0)) 63 1)) 19 2 ((sD (sD D 19 0 (D 63 0)) 19 1 ((sD D 19 0 (D 63 0)) 63 1)) 63 2)) 19 3 ((sD (sD (sD D 19 0 (D 63 0)) 19 1 ((sD D 19 0 (D 63 0)) 63 1)) 19 2 ((sD (sD D 19 0 (D 63 0)) 19 1 ((sD D 19 0 (D 63 0)) 63 1)) 63 2)) 63 3)) 19 4 ((sD (sD (sD (sD D 19 0 (D 63 0)) 19 1 ((sD D 19 0 (D 63 0)) 63 1)) 19 2 ((sD (sD D 19 0 (D 63 0)) 19 1 ((sD D 19 0 (D 63 0)) 63 1)) 63 2)) 19 3 ((sD (sD (sD D 19 0 (D 63 0)) 19 1 ((sD D 19 0 (D 63 0)) 63 1)) 19 2 ((sD (sD D 19 0 (D 63 0)) 19 1 ((sD D 19 0 (D 63 0)) 63 1)) 63 2)) 63 3)) 63 4)) 64 20 0 0 4) 65 21 0 0 4) 66 22 0 0 4) 67 23 0 0 20)) 63 10)) 75 31 0 0 8) 19 12 ((cD (sD (g_People_copyOf_68 (cD (cD (cD (cD (sD (sD (sD (sD (sD D 19 0 (D 63 0)) 19 1 ((sD D 19 0 (D 63 0)) 63 1)) 19 2 ((sD (sD D 19 0 (D 63 0)) 19 1 ((sD D 19 0 (D 63 0)) 63 1)) 63 2)) 19 3 ((sD (sD (sD D 19 0 (D 63 0)) 19 1 ((sD D 19 0 (D 63 0)) 63 1)) 19 2 ((sD (sD D 19 0 (D 63 0)) 19 1 ((sD D 19 0 (D 63 0)) 63 1)) 63 2)) 63 3)) 19 4 ((sD (sD (sD (sD D 19 0 (D 63 0)) 19 1 ((sD D 19 0 (D 63 0)) 63 1)) 19 2 ((sD (sD D 19 0 (D 63 0)) 19 1 ((sD D 19 0 (D 63 0)) 63 1)) 63 2)) 19 3 ((sD (sD (sD D 19 0 (D 63 0)) 19 1 ((sD D 19 0 (D 63 0)) 63 1)) 19 2 ((sD (sD D 19 0 (D 63 0)) 19 1 ((sD D 19 0 (D 63 0)) 63 1)) 63 2)) 63 3)) 63 4)) 64 20 0 0 4) 65 21 0 0 4) 66 22 0 0 4) 67 23 0 0 20)) 19 10 ((g_People_copyOf_68 (cD (cD (cD (cD (sD (sD (sD (sD (sD D 19 0 (D 63 0)) 19 1 ((sD D 19 0 (D 63 0)) 63 1)) 19 2 ((sD (sD D 19 0 (D 63 0)) 19 1 ((sD D 19 0 (D 63 0)) 63 1)) 63 2)) 19 3 ((sD (sD (sD D 19 0 (D 63 0)) 19 1 ((sD D 19 0 (D 63 0)) 63 1)) 19 2 ((sD (sD D 19 0 (D 63 0)) 19 1 ((sD D 19 0 (D 63 0)) 63 1)) 63 2)) 63 3)) 19 4 ((sD (sD (sD (sD D 19 0 (D 63 0)) 19 1 ((sD D 19 0 (D 63 0)) 63 1)) 19 2 ((sD (sD D 19 0 (D 63 0)) 19 1 ((sD D 19 0 (D 63 0)) 63 1)) 63 2)) 19 3 ((sD (sD (sD D 19 0 (D 63 0)) 19 1 ((sD D 19 0 (D 63 0)) 63 1)) 19 2 ((sD (sD D 19 0 (D 63 0)) 19 1 ((sD D 19 0 (D 63 0)) 63 1)) 63 2)) 63 3)) 63 4)) 64 20 0 0 4) 65 21 0 0 4) 66 22 0 0 4) 67 23 0 0 20)) 63 10)) 75 31 0 0 8) 63 12)) 76 32 0 0 5) 77 33 0 0 5), E)) rfl ?_
  cases h
  exact ev_ret hq rfl rfl ⟨rfl, rfl, rfl⟩
def g_People_copyOf_83 (D : mx_D) : mx_D := (sD (cD (cD (cD (cD (cD (cD D 84 25 0 0 8) 85 26 0 0 8) 86 27 0 0 8) 87 28 0 0 8) 88 29 0 0 8) 89 30 0 0 8) 24 6 ((cD (cD (cD (cD (cD (cD D 84 25 0 0 8) 85 26 0 0 8) 86 27 0 0 8) 87 28 0 0 8) 88 29 0 0 8) 89 30 0 0 8) 83 6))
set_option maxRecDepth 100000 in
set_option maxHeartbeats 4000000 in
theorem t_People_copyOf_83 (X : ev_X) (d : Nat) (hd : 1 ≤ d + 1) (E : mx_E) (D : mx_D) (v : mx_D) (h : g_People_copyOf_83 D = v) : ev X (d + 1) 56 (0, [some (.ref 24), some (.ref 83)], [], D, E) (qR none v E) := by
  have hq : kq_m 56 = some kq_q56 := rfl
  unfold g_People_copyOf_83 at h
  refine gv_n hq 52 (S' := (98, [some (.ref 24), some (.ref 83)], [], (sD (cD (cD (cD (cD (cD (cD D 84 25 0 0 8) 85 26 0 0 8) 86 27 0 0 8) 87 28 0 0 8) 88 29 0 0 8) 89 30 0 0 8) 24 6 ((cD (cD (cD (cD (cD (cD D 84 25 0 0 8) 85 26 0 0 8) 86 27 0 0 8) 87 28 0 0 8) 88 29 0 0 8) 89 30 0 0 8) 83 6)), E)) rfl ?_
  subst h
  exact ev_ret hq rfl rfl ⟨rfl, rfl, rfl⟩
def g_Church_copyOf_78 (D : mx_D) : Option (mx_D) := (zk ((sD (sD (sD D 19 0 (D 78 0)) 19 1 ((sD D 19 0 (D 78 0)) 78 1)) 19 2 ((sD (sD D 19 0 (D 78 0)) 19 1 ((sD D 19 0 (D 78 0)) 78 1)) 78 2)) 78 3) (some (cD (cD (sD (cD (sD (g_People_copyOf_83 (cD (cD (cD (cD (sD (sD (sD (sD (sD D 19 0 (D 78 0)) 19 1 ((sD D 19 0 (D 78 0)) 78 1)) 19 2 ((sD (sD D 19 0 (D 78 0)) 19 1 ((sD D 19 0 (D 78 0)) 78 1)) 78 2)) 19 3 ((sD (sD (sD D 19 0 (D 78 0)) 19 1 ((sD D 19 0 (D 78 0)) 78 1)) 19 2 ((sD (sD D 19 0 (D 78 0)) 19 1 ((sD D 19 0 (D 78 0)) 78 1)) 78 2)) 78 3)) 19 4 ((sD (sD (sD (sD D 19 0 (D 78 0)) 19 1 ((sD D 19 0 (D 78 0)) 78 1)) 19 2 ((sD (sD D 19 0 (D 78 0)) 19 1 ((sD D 19 0 (D 78 0)) 78 1)) 78 2)) 19 3 ((sD (sD (sD D 19 0 (D 78 0)) 19 1 ((sD D 19 0 (D 78 0)) 78 1)) 19 2 ((sD (sD D 19 0 (D 78 0)) 19 1 ((sD D 19 0 (D 78 0)) 78 1)) 78 2)) 78 3)) 78 4)) 79 20 0 0 4) 80 21 0 0 4) 81 22 0 0 4) 82 23 0 0 20)) 19 10 ((g_People_copyOf_83 (cD (cD (cD (cD (sD (sD (sD (sD (sD D 19 0 (D 78 0)) 19 1 ((sD D 19 0 (D 78 0)) 78 1)) 19 2 ((sD (sD D 19 0 (D 78 0)) 19 1 ((sD D 19 0 (D 78 0)) 78 1)) 78 2)) 19 3 ((sD (sD (sD D 19 0 (D 78 0)) 19 1 ((sD D 19 0 (D 78 0)) 78 1)) 19 2 ((sD (sD D 19 0 (D 78 0)) 19 1 ((sD D 19 0 (D 78 0)) 78 1)) 78 2)) 78 3)) 19 4 ((sD (sD (sD (sD D 19 0 (D 78 0)) 19 1 ((sD D 19 0 (D 78 0)) 78 1)) 19 2 ((sD (sD D 19 0 (D 78 0)) 19 1 ((sD D 19 0 (D 78 0)) 78 1)) 78 2)) 19 3 ((sD (sD (sD D 19 0 (D 78 0)) 19 1 ((sD D 19 0 (D 78 0)) 78 1)) 19 2 ((sD (sD D 19 0 (D 78 0)) 19 1 ((sD D 19 0 (D 78 0)) 78 1)) 78 2)) 78 3)) 78 4)) 79 20 0 0 4) 80 21 0 0 4) 81 22 0 0 4) 82 23 0 0 20)) 78 10)) 90 31 0 0 8) 19 12 ((cD (sD (g_People_copyOf_83 (cD (cD (cD (cD (sD (sD (sD (sD (sD D 19 0 (D 78 0)) 19 1 ((sD D 19 0 (D 78 0)) 78 1)) 19 2 ((sD (sD D 19 0 (D 78 0)) 19 1 ((sD D 19 0 (D 78 0)) 78 1)) 78 2)) 19 3 ((sD (sD (sD D 19 0 (D 78 0)) 19 1 ((sD D 19 0 (D 78 0)) 78 1)) 19 2 ((sD (sD D 19 0 (D 78 0)) 19 1 ((sD D 19 0 (D 78 0)) 78 1)) 78 2)) 78 3)) 19 4 ((sD (sD (sD (sD D 19 0 (D 78 0)) 19 1 ((sD D 19 0 (D 78 0)) 78 1)) 19 2 ((sD (sD D 19 0 (D 78 0)) 19 1 ((sD D 19 0 (D 78 0)) 78 1)) 78 2)) 19 3 ((sD (sD (sD D 19 0 (D 78 0)) 19 1 ((sD D 19 0 (D 78 0)) 78 1)) 19 2 ((sD (sD D 19 0 (D 78 0)) 19 1 ((sD D 19 0 (D 78 0)) 78 1)) 78 2)) 78 3)) 78 4)) 79 20 0 0 4) 80 21 0 0 4) 81 22 0 0 4) 82 23 0 0 20)) 19 10 ((g_People_copyOf_83 (cD (cD (cD (cD (sD (sD (sD (sD (sD D 19 0 (D 78 0)) 19 1 ((sD D 19 0 (D 78 0)) 78 1)) 19 2 ((sD (sD D 19 0 (D 78 0)) 19 1 ((sD D 19 0 (D 78 0)) 78 1)) 78 2)) 19 3 ((sD (sD (sD D 19 0 (D 78 0)) 19 1 ((sD D 19 0 (D 78 0)) 78 1)) 19 2 ((sD (sD D 19 0 (D 78 0)) 19 1 ((sD D 19 0 (D 78 0)) 78 1)) 78 2)) 78 3)) 19 4 ((sD (sD (sD (sD D 19 0 (D 78 0)) 19 1 ((sD D 19 0 (D 78 0)) 78 1)) 19 2 ((sD (sD D 19 0 (D 78 0)) 19 1 ((sD D 19 0 (D 78 0)) 78 1)) 78 2)) 19 3 ((sD (sD (sD D 19 0 (D 78 0)) 19 1 ((sD D 19 0 (D 78 0)) 78 1)) 19 2 ((sD (sD D 19 0 (D 78 0)) 19 1 ((sD D 19 0 (D 78 0)) 78 1)) 78 2)) 78 3)) 78 4)) 79 20 0 0 4) 80 21 0 0 4) 81 22 0 0 4) 82 23 0 0 20)) 78 10)) 90 31 0 0 8) 78 12)) 91 32 0 0 5) 92 33 0 0 5)))
set_option maxRecDepth 100000 in
set_option maxHeartbeats 4000000 in
theorem t_Church_copyOf_78 (X : ev_X) (d : Nat) (hd : 2 ≤ d + 1) (E : mx_E) (D : mx_D) (v : mx_D) (h : g_Church_copyOf_78 D = some v) : ev X (d + 1) 15 (0, [some (.ref 19), some (.ref 78)], [], D, E) (qR none v E) := by
  have hq : kq_m 15 = some kq_q15 := rfl
  unfold g_Church_copyOf_78 at h
  refine gv_n hq 15 (S' := (29, [some (.ref 19), some (.ref 78)], [.int ((sD (sD (sD D 19 0 (D 78 0)) 19 1 ((sD D 19 0 (D 78 0)) 78 1)) 19 2 ((sD (sD D 19 0 (D 78 0)) 19 1 ((sD D 19 0 (D 78 0)) 78 1)) 78 2)) 78 3), .ref 19], (sD (sD (sD D 19 0 (D 78 0)) 19 1 ((sD D 19 0 (D 78 0)) 78 1)) 19 2 ((sD (sD D 19 0 (D 78 0)) 19 1 ((sD D 19 0 (D 78 0)) 78 1)) 78 2)), E)) rfl ?_
  refine gv_zp hq rfl h (S' := (32, [some (.ref 19), some (.ref 78)], [], (sD (sD (sD (sD D 19 0 (D 78 0)) 19 1 ((sD D 19 0 (D 78 0)) 78 1)) 19 2 ((sD (sD D 19 0 (D 78 0)) 19 1 ((sD D 19 0 (D 78 0)) 78 1)) 78 2)) 19 3 ((sD (sD (sD D 19 0 (D 78 0)) 19 1 ((sD D 19 0 (D 78 0)) 78 1)) 19 2 ((sD (sD D 19 0 (D 78 0)) 19 1 ((sD D 19 0 (D 78 0)) 78 1)) 78 2)) 78 3)), E)) rfl (fun h => ?_)
  refine gv_n hq 40 (S' := (105, [some (.ref 19), some (.ref 78)], [.ref 83, .ref 24], (cD (cD (cD (cD (sD (sD (sD (sD (sD D 19 0 (D 78 0)) 19 1 ((sD D 19 0 (D 78 0)) 78 1)) 19 2 ((sD (sD D 19 0 (D 78 0)) 19 1 ((sD D 19 0 (D 78 0)) 78 1)) 78 2)) 19 3 ((sD (sD (sD D 19 0 (D 78 0)) 19 1 ((sD D 19 0 (D 78 0)) 78 1)) 19 2 ((sD (sD D 19 0 (D 78 0)) 19 1 ((sD D 19 0 (D 78 0)) 78 1)) 78 2)) 78 3)) 19 4 ((sD (sD (sD (sD D 19 0 (D 78 0)) 19 1 ((sD D 19 0 (D 78 0)) 78 1)) 19 2 ((sD (sD D 19 0 (D 78 0)) 19 1 ((sD D 19 0 (D 78 0)) 78 1)) 78 2)) 19 3 ((sD (sD (sD D 19 0 (D 78 0)) 19 1 ((sD D 19 0 (D 78 0)) 78 1)) 19 2 ((sD (sD D 19 0 (D 78 0)) 19 1 ((sD D 19 0 (D 78 0)) 78 1)) 78 2)) 78 3)) 78 4)) 79 20 0 0 4) 80 21 0 0 4) 81 22 0 0 4) 82 23 0 0 20), E)) rfl ?_
  refine gv_d hq rfl rfl rfl rfl rfl (gv_dd (by omega) (t_People_copyOf_83 X (d - 1) (by omega) E _ _ rfl)) (S' := (108, [some (.ref 19), some (.ref 78)], [], (g_People_copyOf_83 (cD (cD (cD (cD (sD (sD (sD (sD (sD D 19 0 (D 78 0)) 19 1 ((sD D 19 0 (D 78 0)) 78 1)) 19 2 ((sD (sD D 19 0 (D 78 0)) 19 1 ((sD D 19 0 (D 78 0)) 78 1)) 78 2)) 19 3 ((sD (sD (sD D 19 0 (D 78 0)) 19 1 ((sD D 19 0 (D 78 0)) 78 1)) 19 2 ((sD (sD D 19 0 (D 78 0)) 19 1 ((sD D 19 0 (D 78 0)) 78 1)) 78 2)) 78 3)) 19 4 ((sD (sD (sD (sD D 19 0 (D 78 0)) 19 1 ((sD D 19 0 (D 78 0)) 78 1)) 19 2 ((sD (sD D 19 0 (D 78 0)) 19 1 ((sD D 19 0 (D 78 0)) 78 1)) 78 2)) 19 3 ((sD (sD (sD D 19 0 (D 78 0)) 19 1 ((sD D 19 0 (D 78 0)) 78 1)) 19 2 ((sD (sD D 19 0 (D 78 0)) 19 1 ((sD D 19 0 (D 78 0)) 78 1)) 78 2)) 78 3)) 78 4)) 79 20 0 0 4) 80 21 0 0 4) 81 22 0 0 4) 82 23 0 0 20)), E)) rfl ?_
  refine gv_n hq 32 (S' := (167, [some (.ref 19), some (.ref 78)], [], (cD (cD (sD (cD (sD (g_People_copyOf_83 (cD (cD (cD (cD (sD (sD (sD (sD (sD D 19 0 (D 78 0)) 19 1 ((sD D 19 0 (D 78 0)) 78 1)) 19 2 ((sD (sD D 19 0 (D 78 0)) 19 1 ((sD D 19 0 (D 78 0)) 78 1)) 78 2)) 19 3 ((sD (sD (sD D 19 0 (D 78 0)) 19 1 ((sD D 19 0 (D 78 0)) 78 1)) 19 2 ((sD (sD D 19 0 (D 78 0)) 19 1 ((sD D 19 0 (D 78 0)) 78 1)) 78 2)) 78 3)) 19 4 ((sD (sD (sD (sD D 19 0 (D 78 0)) 19 1 ((sD D 19 0 (D 78 0)) 78 1)) 19 2 ((sD (sD D 19 0 (D 78 0)) 19 1 ((sD D 19 0 (D 78 0)) 78 1)) 78 2)) 19 3 ((sD (sD (sD D 19 0 (D 78 0)) 19 1 ((sD D 19 0 (D 78 0)) 78 1)) 19 2 ((sD (sD D 19 0 (D 78 0)) 19 1 ((sD D 19 0 (D 78 0)) 78 1)) 78 2)) 78 3)) 78 4)) 79 20 0 0 4) 80 21 0 0 4) 81 22 0 0 4) 82 23 0 0 20)) 19 10 ((g_People_copyOf_83 (cD (cD (cD (cD (sD (sD (sD (sD (sD D 19 0 (D 78 0)) 19 1 ((sD D 19 0 (D 78 0)) 78 1)) 19 2 ((sD (sD D 19 0 (D 78 0)) 19 1 ((sD D 19 0 (D 78 0)) 78 1)) 78 2)) 19 3 ((sD (sD (sD D 19 0 (D 78 0)) 19 1 ((sD D 19 0 (D 78 0)) 78 1)) 19 2 ((sD (sD D 19 0 (D 78 0)) 19 1 ((sD D 19 0 (D 78 0)) 78 1)) 78 2)) 78 3)) 19 4 ((sD (sD (sD (sD D 19 0 (D 78 0)) 19 1 ((sD D 19 0 (D 78 0)) 78 1)) 19 2 ((sD (sD D 19 0 (D 78 0)) 19 1 ((sD D 19 0 (D 78 0)) 78 1)) 78 2)) 19 3 ((sD (sD (sD D 19 0 (D 78 0)) 19 1 ((sD D 19 0 (D 78 0)) 78 1)) 19 2 ((sD (sD D 19 0 (D 78 0)) 19 1 ((sD D 19 0 (D 78 0)) 78 1)) 78 2)) 78 3)) 78 4)) 79 20 0 0 4) 80 21 0 0 4) 81 22 0 0 4) 82 23 0 0 20)) 78 10)) 90 31 0 0 8) 19 12 ((cD (sD (g_People_copyOf_83 (cD (cD (cD (cD (sD (sD (sD (sD (sD D 19 0 (D 78 0)) 19 1 ((sD D 19 0 (D 78 0)) 78 1)) 19 2 ((sD (sD D 19 0 (D 78 0)) 19 1 ((sD D 19 0 (D 78 0)) 78 1)) 78 2)) 19 3 ((sD (sD (sD D 19 0 (D 78 0)) 19 1 ((sD D 19 0 (D 78 0)) 78 1)) 19 2 ((sD (sD D 19 0 (D 78 0)) 19 1 ((sD D 19 0 (D 78 0)) 78 1)) 78 2)) 78 3)) 19 4 ((sD (sD (sD (sD D 19 0 (D 78 0)) 19 1 ((sD D 19 0 (D 78 0)) 78 1)) 19 2 ((sD (sD D 19 0 (D 78 0)) 19 1 ((sD D 19 0 (D 78 0)) 78 1)) 78 2)) 19 3 ((sD (sD (sD D 19 0 (D 78 0)) 19 1 ((sD D 19 0 (D 78 0)) 78 1)) 19 2 ((sD (sD D 19 0 (D 78 0)) 19 1 ((sD D 19 0 (D 78 0)) 78 1)) 78 2)) 78 3)) 78 4)) 79 20 0 0 4) 80 21 0 0 4) 81 22 0 0 4) 82 23 0 0 20)) 19 10 ((g_People_copyOf_83 (cD (cD (cD (cD (sD (sD (sD (sD (sD D 19 0 (D 78 0)) 19 1 ((sD D 19 0 (D 78 0)) 78 1)) 19 2 ((sD (sD D 19 0 (D 78 0)) 19 1 ((sD D 19 0 (D 78 0)) 78 1)) 78 2)) 19 3 ((sD (sD (sD D 19 0 (D 78 0)) 19 1 ((sD D 19 0 (D 78 0)) 78 1)) 19 2 ((sD (sD D 19 0 (D 78 0)) 19 1 ((sD D 19 0 (D 78 0)) 78 1)) 78 2)) 78 3)) 19 4 ((sD (sD (sD (sD D 19 0 (D 78 0)) 19 1 ((sD D 19 0 (D 78 0)) 78 1)) 19 2 ((sD (sD D 19 0 (D 78 0)) 19 1 ((sD D 19 0 (D 78 0)) 78 1)) 78 2)) 19 3 ((sD (sD (sD D 19 0 (D 78 0)) 19 1 ((sD D 19 0 (D 78 0)) 78 1)) 19 2 ((sD (sD D 19 0 (D 78 0)) 19 1 ((sD D 19 0 (D 78 0)) 78 1)) 78 2)) 78 3)) 78 4)) 79 20 0 0 4) 80 21 0 0 4) 81 22 0 0 4) 82 23 0 0 20)) 78 10)) 90 31 0 0 8) 78 12)) 91 32 0 0 5) 92 33 0 0 5), E)) rfl ?_
  cases h
  exact ev_ret hq rfl rfl ⟨rfl, rfl, rfl⟩
def g_People_copyOf_98 (D : mx_D) : mx_D := (sD (cD (cD (cD (cD (cD (cD D 99 25 0 0 8) 100 26 0 0 8) 101 27 0 0 8) 102 28 0 0 8) 103 29 0 0 8) 104 30 0 0 8) 24 6 ((cD (cD (cD (cD (cD (cD D 99 25 0 0 8) 100 26 0 0 8) 101 27 0 0 8) 102 28 0 0 8) 103 29 0 0 8) 104 30 0 0 8) 98 6))
set_option maxRecDepth 100000 in
set_option maxHeartbeats 4000000 in
theorem t_People_copyOf_98 (X : ev_X) (d : Nat) (hd : 1 ≤ d + 1) (E : mx_E) (D : mx_D) (v : mx_D) (h : g_People_copyOf_98 D = v) : ev X (d + 1) 56 (0, [some (.ref 24), some (.ref 98)], [], D, E) (qR none v E) := by
  have hq : kq_m 56 = some kq_q56 := rfl
  unfold g_People_copyOf_98 at h
  refine gv_n hq 52 (S' := (98, [some (.ref 24), some (.ref 98)], [], (sD (cD (cD (cD (cD (cD (cD D 99 25 0 0 8) 100 26 0 0 8) 101 27 0 0 8) 102 28 0 0 8) 103 29 0 0 8) 104 30 0 0 8) 24 6 ((cD (cD (cD (cD (cD (cD D 99 25 0 0 8) 100 26 0 0 8) 101 27 0 0 8) 102 28 0 0 8) 103 29 0 0 8) 104 30 0 0 8) 98 6)), E)) rfl ?_
  subst h
  exact ev_ret hq rfl rfl ⟨rfl, rfl, rfl⟩
def g_Church_copyOf_93 (D : mx_D) : Option (mx_D) := (zk ((sD (sD (sD D 19 0 (D 93 0)) 19 1 ((sD D 19 0 (D 93 0)) 93 1)) 19 2 ((sD (sD D 19 0 (D 93 0)) 19 1 ((sD D 19 0 (D 93 0)) 93 1)) 93 2)) 93 3) (some (cD (cD (sD (cD (sD (g_People_copyOf_98 (cD (cD (cD (cD (sD (sD (sD (sD (sD D 19 0 (D 93 0)) 19 1 ((sD D 19 0 (D 93 0)) 93 1)) 19 2 ((sD (sD D 19 0 (D 93 0)) 19 1 ((sD D 19 0 (D 93 0)) 93 1)) 93 2)) 19 3 ((sD (sD (sD D 19 0 (D 93 0)) 19 1 ((sD D 19 0 (D 93 0)) 93 1)) 19 2 ((sD (sD D 19 0 (D 93 0)) 19 1 ((sD D 19 0 (D 93 0)) 93 1)) 93 2)) 93 3)) 19 4 ((sD (sD (sD (sD D 19 0 (D 93 0)) 19 1 ((sD D 19 0 (D 93 0)) 93 1)) 19 2 ((sD (sD D 19 0 (D 93 0)) 19 1 ((sD D 19 0 (D 93 0)) 93 1)) 93 2)) 19 3 ((sD (sD (sD D 19 0 (D 93 0)) 19 1 ((sD D 19 0 (D 93 0)) 93 1)) 19 2 ((sD (sD D 19 0 (D 93 0)) 19 1 ((sD D 19 0 (D 93 0)) 93 1)) 93 2)) 93 3)) 93 4)) 94 20 0 0 4) 95 21 0 0 4) 96 22 0 0 4) 97 23 0 0 20)) 19 10 ((g_People_copyOf_98 (cD (cD (cD (cD (sD (sD (sD (sD (sD D 19 0 (D 93 0)) 19 1 ((sD D 19 0 (D 93 0)) 93 1)) 19 2 ((sD (sD D 19 0 (D 93 0)) 19 1 ((sD D 19 0 (D 93 0)) 93 1)) 93 2)) 19 3 ((sD (sD (sD D 19 0 (D 93 0)) 19 1 ((sD D 19 0 (D 93 0)) 93 1)) 19 2 ((sD (sD D 19 0 (D 93 0)) 19 1 ((sD D 19 0 (D 93 0)) 93 1)) 93 2)) 93 3)) 19 4 ((sD (sD (sD (sD D 19 0 (D 93 0)) 19 1 ((sD D 19 0 (D 93 0)) 93 1)) 19 2 ((sD (sD D 19 0 (D 93 0)) 19 1 ((sD D 19 0 (D 93 0)) 93 1)) 93 2)) 19 3 ((sD (sD (sD D 19 0 (D 93 0)) 19 1 ((sD D 19 0 (D 93 0)) 93 1)) 19 2 ((sD (sD D 19 0 (D 93 0)) 19 1 ((sD D 19 0 (D 93 0)) 93 1)) 93 2)) 93 3)) 93 4)) 94 20 0 0 4) 95 21 0 0 4) 96 22 0 0 4) 97 23 0 0 20)) 93 10)) 105 31 0 0 8) 19 12 ((cD (sD (g_People_copyOf_98 (cD (cD (cD (cD (sD (sD (sD (sD (sD D 19 0 (D 93 0)) 19 1 ((sD D 19 0 (D 93 0)) 93 1)) 19 2 ((sD (sD D 19 0 (D 93 0)) 19 1 ((sD D 19 0 (D 93 0)) 93 1)) 93 2)) 19 3 ((sD (sD (sD D 19 0 (D 93 0)) 19 1 ((sD D 19 0 (D 93 0)) 93 1)) 19 2 ((sD (sD D 19 0 (D 93 0)) 19 1 ((sD D 19 0 (D 93 0)) 93 1)) 93 2)) 93 3)) 19 4 ((sD (sD (sD (sD D 19 0 (D 93 0)) 19 1 ((sD D 19 0 (D 93 0)) 93 1)) 19 2 ((sD (sD D 19 0 (D 93 0)) 19 1 ((sD D 19 0 (D 93 0)) 93 1)) 93 2)) 19 3 ((sD (sD (sD D 19 0 (D 93 0)) 19 1 ((sD D 19 0 (D 93 0)) 93 1)) 19 2 ((sD (sD D 19 0 (D 93 0)) 19 1 ((sD D 19 0 (D 93 0)) 93 1)) 93 2)) 93 3)) 93 4)) 94 20 0 0 4) 95 21 0 0 4) 96 22 0 0 4) 97 23 0 0 20)) 19 10 ((g_People_copyOf_98 (cD (cD (cD (cD (sD (sD (sD (sD (sD D 19 0 (D 93 0)) 19 1 ((sD D 19 0 (D 93 0)) 93 1)) 19 2 ((sD (sD D 19 0 (D 93 0)) 19 1 ((sD D 19 0 (D 93 0)) 93 1)) 93 2)) 19 3 ((sD (sD (sD D 19 0 (D 93 0)) 19 1 ((sD D 19 0 (D 93 0)) 93 1)) 19 2 ((sD (sD D 19 0 (D 93 0)) 19 1 ((sD D 19 0 (D 93 0)) 93 1)) 93 2)) 93 3)) 19 4 ((sD (sD (sD (sD D 19 0 (D 93 0)) 19 1 ((sD D 19 0 (D 93 0)) 93 1)) 19 2 ((sD (sD D 19 0 (D 93 0)) 19 1 ((sD D 19 0 (D 93 0)) 93 1)) 93 2)) 19 3 ((sD (sD (sD D 19 0 (D 93 0)) 19 1 ((sD D 19 0 (D 93 0)) 93 1)) 19 2 ((sD (sD D 19 0 (D 93 0)) 19 1 ((sD D 19 0 (D 93 0)) 93 1)) 93 2)) 93 3)) 93 4)) 94 20 0 0 4) 95 21 0 0 4) 96 22 0 0 4) 97 23 0 0 20)) 93 10)) 105 31 0 0 8) 93 12)) 106 32 0 0 5) 107 33 0 0 5)))
set_option maxRecDepth 100000 in
set_option maxHeartbeats 4000000 in
theorem t_Church_copyOf_93 (X : ev_X) (d : Nat) (hd : 2 ≤ d + 1) (E : mx_E) (D : mx_D) (v : mx_D) (h : g_Church_copyOf_93 D = some v) : ev X (d + 1) 15 (0, [some (.ref 19), some (.ref 93)], [], D, E) (qR none v E) := by
  have hq : kq_m 15 = some kq_q15 := rfl
  unfold g_Church_copyOf_93 at h
  refine gv_n hq 15 (S' := (29, [some (.ref 19), some (.ref 93)], [.int ((sD (sD (sD D 19 0 (D 93 0)) 19 1 ((sD D 19 0 (D 93 0)) 93 1)) 19 2 ((sD (sD D 19 0 (D 93 0)) 19 1 ((sD D 19 0 (D 93 0)) 93 1)) 93 2)) 93 3), .ref 19], (sD (sD (sD D 19 0 (D 93 0)) 19 1 ((sD D 19 0 (D 93 0)) 93 1)) 19 2 ((sD (sD D 19 0 (D 93 0)) 19 1 ((sD D 19 0 (D 93 0)) 93 1)) 93 2)), E)) rfl ?_
  refine gv_zp hq rfl h (S' := (32, [some (.ref 19), some (.ref 93)], [], (sD (sD (sD (sD D 19 0 (D 93 0)) 19 1 ((sD D 19 0 (D 93 0)) 93 1)) 19 2 ((sD (sD D 19 0 (D 93 0)) 19 1 ((sD D 19 0 (D 93 0)) 93 1)) 93 2)) 19 3 ((sD (sD (sD D 19 0 (D 93 0)) 19 1 ((sD D 19 0 (D 93 0)) 93 1)) 19 2 ((sD (sD D 19 0 (D 93 0)) 19 1 ((sD D 19 0 (D 93 0)) 93 1)) 93 2)) 93 3)), E)) rfl (fun h => ?_)
  refine gv_n hq 40 (S' := (105, [some (.ref 19), some (.ref 93)], [.ref 98, .ref 24], (cD (cD (cD (cD (sD (sD (sD (sD (sD D 19 0 (D 93 0)) 19 1 ((sD D 19 0 (D 93 0)) 93 1)) 19 2 ((sD (sD D 19 0 (D 93 0)) 19 1 ((sD D 19 0 (D 93 0)) 93 1)) 93 2)) 19 3 ((sD (sD (sD D 19 0 (D 93 0)) 19 1 ((sD D 19 0 (D 93 0)) 93 1)) 19 2 ((sD (sD D 19 0 (D 93 0)) 19 1 ((sD D 19 0 (D 93 0)) 93 1)) 93 2)) 93 3)) 19 4 ((sD (sD (sD (sD D 19 0 (D 93 0)) 19 1 ((sD D 19 0 (D 93 0)) 93 1)) 19 2 ((sD (sD D 19 0 (D 93 0)) 19 1 ((sD D 19 0 (D 93 0)) 93 1)) 93 2)) 19 3 ((sD (sD (sD D 19 0 (D 93 0)) 19 1 ((sD D 19 0 (D 93 0)) 93 1)) 19 2 ((sD (sD D 19 0 (D 93 0)) 19 1 ((sD D 19 0 (D 93 0)) 93 1)) 93 2)) 93 3)) 93 4)) 94 20 0 0 4) 95 21 0 0 4) 96 22 0 0 4) 97 23 0 0 20), E)) rfl ?_
  refine gv_d hq rfl rfl rfl rfl rfl (gv_dd (by omega) (t_People_copyOf_98 X (d - 1) (by omega) E _ _ rfl)) (S' := (108, [some (.ref 19), some (.ref 93)], [], (g_People_copyOf_98 (cD (cD (cD (cD (sD (sD (sD (sD (sD D 19 0 (D 93 0)) 19 1 ((sD D 19 0 (D 93 0)) 93 1)) 19 2 ((sD (sD D 19 0 (D 93 0)) 19 1 ((sD D 19 0 (D 93 0)) 93 1)) 93 2)) 19 3 ((sD (sD (sD D 19 0 (D 93 0)) 19 1 ((sD D 19 0 (D 93 0)) 93 1)) 19 2 ((sD (sD D 19 0 (D 93 0)) 19 1 ((sD D 19 0 (D 93 0)) 93 1)) 93 2)) 93 3)) 19 4 ((sD (sD (sD (sD D 19 0 (D 93 0)) 19 1 ((sD D 19 0 (D 93 0)) 93 1)) 19 2 ((sD (sD D 19 0 (D 93 0)) 19 1 ((sD D 19 0 (D 93 0)) 93 1)) 93 2)) 19 3 ((sD (sD (sD D 19 0 (D 93 0)) 19 1 ((sD D 19 0 (D 93 0)) 93 1)) 19 2 ((sD (sD D 19 0 (D 93 0)) 19 1 ((sD D 19 0 (D 93 0)) 93 1)) 93 2)) 93 3)) 93 4)) 94 20 0 0 4) 95 21 0 0 4) 96 22 0 0 4) 97 23 0 0 20)), E)) rfl ?_
  refine gv_n hq 32 (S' := (167, [some (.ref 19), some (.ref 93)], [], (cD (cD (sD (cD (sD (g_People_copyOf_98 (cD (cD (cD (cD (sD (sD (sD (sD (sD D 19 0 (D 93 0)) 19 1 ((sD D 19 0 (D 93 0)) 93 1)) 19 2 ((sD (sD D 19 0 (D 93 0)) 19 1 ((sD D 19 0 (D 93 0)) 93 1)) 93 2)) 19 3 ((sD (sD (sD D 19 0 (D 93 0)) 19 1 ((sD D 19 0 (D 93 0)) 93 1)) 19 2 ((sD (sD D 19 0 (D 93 0)) 19 1 ((sD D 19 0 (D 93 0)) 93 1)) 93 2)) 93 3)) 19 4 ((sD (sD (sD (sD D 19 0 (D 93 0)) 19 1 ((sD D 19 0 (D 93 0)) 93 1)) 19 2 ((sD (sD D 19 0 (D 93 0)) 19 1 ((sD D 19 0 (D 93 0)) 93 1)) 93 2)) 19 3 ((sD (sD (sD D 19 0 (D 93 0)) 19 1 ((sD D 19 0 (D 93 0)) 93 1)) 19 2 ((sD (sD D 19 0 (D 93 0)) 19 1 ((sD D 19 0 (D 93 0)) 93 1)) 93 2)) 93 3)) 93 4)) 94 20 0 0 4) 95 21 0 0 4) 96 22 0 0 4) 97 23 0 0 20)) 19 10 ((g_People_copyOf_98 (cD (cD (cD (cD (sD (sD (sD (sD (sD D 19 0 (D 93 0)) 19 1 ((sD D 19 0 (D 93 0)) 93 1)) 19 2 ((sD (sD D 19 0 (D 93 0)) 19 1 ((sD D 19 0 (D 93 0)) 93 1)) 93 2)) 19 3 ((sD (sD (sD D 19 0 (D 93 0)) 19 1 ((sD D 19 0 (D 93 0)) 93 1)) 19 2 ((sD (sD D 19 0 (D 93 0)) 19 1 ((sD D 19 0 (D 93 0)) 93 1)) 93 2)) 93 3)) 19 4 ((sD (sD (sD (sD D 19 0 (D 93 0)) 19 1 ((sD D 19 0 (D 93 0)) 93 1)) 19 2 ((sD (sD D 19 0 (D 93 0)) 19 1 ((sD D 19 0 (D 93 0)) 93 1)) 93 2)) 19 3 ((sD (sD (sD D 19 0 (D 93 0)) 19 1 ((sD D 19 0 (D 93 0)) 93 1)) 19 2 ((sD (sD D 19 0 (D 93 0)) 19 1 ((sD D 19 0 (D 93 0)) 93 1)) 93 2)) 93 3)) 93 4)) 94 20 0 0 4) 95 21 0 0 4) 96 22 0 0 4) 97 23 0 0 20)) 93 10)) 105 31 0 0 8) 19 12 ((cD (sD (g_People_copyOf_98 (cD (cD (cD (cD (sD (sD (sD (sD (sD D 19 0 (D 93 0)) 19 1 ((sD D 19 0 (D 93 0)) 93 1)) 19 2 ((sD (sD D 19 0 (D 93 0)) 19 1 ((sD D 19 0 (D 93 0)) 93 1)) 93 2)) 19 3 ((sD (sD (sD D 19 0 (D 93 0)) 19 1 ((sD D 19 0 (D 93 0)) 93 1)) 19 2 ((sD (sD D 19 0 (D 93 0)) 19 1 ((sD D 19 0 (D 93 0)) 93 1)) 93 2)) 93 3)) 19 4 ((sD (sD (sD (sD D 19 0 (D 93 0)) 19 1 ((sD D 19 0 (D 93 0)) 93 1)) 19 2 ((sD (sD D 19 0 (D 93 0)) 19 1 ((sD D 19 0 (D 93 0)) 93 1)) 93 2)) 19 3 ((sD (sD (sD D 19 0 (D 93 0)) 19 1 ((sD D 19 0 (D 93 0)) 93 1)) 19 2 ((sD (sD D 19 0 (D 93 0)) 19 1 ((sD D 19 0 (D 93 0)) 93 1)) 93 2)) 93 3)) 93 4)) 94 20 0 0 4) 95 21 0 0 4) 96 22 0 0 4) 97 23 0 0 20)) 19 10 ((g_People_copyOf_98 (cD (cD (cD (cD (sD (sD (sD (sD (sD D 19 0 (D 93 0)) 19 1 ((sD D 19 0 (D 93 0)) 93 1)) 19 2 ((sD (sD D 19 0 (D 93 0)) 19 1 ((sD D 19 0 (D 93 0)) 93 1)) 93 2)) 19 3 ((sD (sD (sD D 19 0 (D 93 0)) 19 1 ((sD D 19 0 (D 93 0)) 93 1)) 19 2 ((sD (sD D 19 0 (D 93 0)) 19 1 ((sD D 19 0 (D 93 0)) 93 1)) 93 2)) 93 3)) 19 4 ((sD (sD (sD (sD D 19 0 (D 93 0)) 19 1 ((sD D 19 0 (D 93 0)) 93 1)) 19 2 ((sD (sD D 19 0 (D 93 0)) 19 1 ((sD D 19 0 (D 93 0)) 93 1)) 93 2)) 19 3 ((sD (sD (sD D 19 0 (D 93 0)) 19 1 ((sD D 19 0 (D 93 0)) 93 1)) 19 2 ((sD (sD D 19 0 (D 93 0)) 19 1 ((sD D 19 0 (D 93 0)) 93 1)) 93 2)) 93 3)) 93 4)) 94 20 0 0 4) 95 21 0 0 4) 96 22 0 0 4) 97 23 0 0 20)) 93 10)) 105 31 0 0 8) 93 12)) 106 32 0 0 5) 107 33 0 0 5), E)) rfl ?_
  cases h
  exact ev_ret hq rfl rfl ⟨rfl, rfl, rfl⟩
def g_X_back (a1 : Int32) (D : mx_D) : Option (Int32 × mx_D) := (if a1 < 0 then (some ((-2 : Int32), D)) else (if a1 < (nI 3) then (rk 3 a1 (if (D 61 (a1).toNatClampNeg) = 0 then (some ((-6 : Int32), D)) else (if a1 = (nI 0) then (Option.bind (g_Church_copyOf_63 D) (fun r1 => (some ((nI 0), r1)))) else (if a1 = (nI 1) then (Option.bind (g_Church_copyOf_78 D) (fun r2 => (some ((nI 0), r2)))) else (if a1 = (nI 2) then (Option.bind (g_Church_copyOf_93 D) (fun r3 => (some ((nI 0), r3)))) else none))))) else (some ((-2 : Int32), D))))
set_option maxRecDepth 100000 in
set_option maxHeartbeats 4000000 in
theorem t_X_back (X : ev_X) (d : Nat) (hd : 3 ≤ d + 1) (E : mx_E) (a1 : Int32) (D : mx_D) (v : Int32 × mx_D) (h : g_X_back a1 D = some v) : ev X (d + 1) 177 (0, [some (.ref 0), some (.int a1)], [], D, E) (qR (some (.int v.1)) v.2 E) := by
  have hq : kq_m 177 = some kq_q177 := rfl
  unfold g_X_back at h
  refine gv_n hq 1 (S' := (1, [some (.ref 0), some (.int a1)], [.int a1], D, E)) rfl ?_
  refine gv_b hq rfl h 9 4 rfl rfl rfl (fun h => ?_) (fun h => ?_)
  · refine gv_n hq 1 (S' := (11, [some (.ref 0), some (.int a1)], [.int (-2 : Int32)], D, E)) rfl ?_
    cases h
    exact ev_ret hq rfl rfl ⟨rfl, rfl, rfl⟩
  · refine gv_n hq 2 (S' := (6, [some (.ref 0), some (.int a1)], [.int (nI 3), .int a1], D, E)) rfl ?_
    refine gv_b hq rfl h 12 9 rfl rfl rfl (fun h => ?_) (fun h => ?_)
    · refine gv_n hq 3 (S' := (17, [some (.ref 0), some (.int a1)], [.int a1, .ref 61], D, E)) rfl ?_
      refine gv_ba2 hq rfl rfl h 18 rfl (fun h => ?_)
      refine gv_b hq rfl h 21 24 rfl rfl rfl (fun h => ?_) (fun h => ?_)
      · refine gv_n hq 1 (S' := (23, [some (.ref 0), some (.int a1)], [.int (-6 : Int32)], D, E)) rfl ?_
        cases h
        exact ev_ret hq rfl rfl ⟨rfl, rfl, rfl⟩
      · refine gv_n hq 5 (S' := (33, [some (.ref 0), some (.int a1)], [.int a1, .ref 60, .ref 19], D, E)) rfl ?_
        refine gv_if h (fun c0 h => ?_) (fun c0 h => ?_)
        · refine ev_ins hq rfl (S' := (34, [some (.ref 0), some (.int a1)], [.ref 63, .ref 19], D, E)) (gv_sw (fun z => ((33, [some (.ref 0), some (.int a1)], .int z :: [.ref 60, .ref 19], D, E) : mx_S)) c0 rfl) ?_
          obtain ⟨r1, h1, h⟩ := Option.bind_eq_some_iff.mp h
          refine gv_d hq rfl rfl rfl rfl rfl (gv_dd (by omega) (t_Church_copyOf_63 X (d - 1) (by omega) E _ _ h1)) (S' := (37, [some (.ref 0), some (.int a1)], [], r1, E)) rfl ?_
          refine gv_n hq 1 (S' := (38, [some (.ref 0), some (.int a1)], [.int (nI 0)], r1, E)) rfl ?_
          cases h
          exact ev_ret hq rfl rfl ⟨rfl, rfl, rfl⟩
        · refine gv_if h (fun c1 h => ?_) (fun c1 h => ?_)
          · refine ev_ins hq rfl (S' := (34, [some (.ref 0), some (.int a1)], [.ref 78, .ref 19], D, E)) (gv_sw (fun z => ((33, [some (.ref 0), some (.int a1)], .int z :: [.ref 60, .ref 19], D, E) : mx_S)) c1 rfl) ?_
            obtain ⟨r2, h1, h⟩ := Option.bind_eq_some_iff.mp h
            refine gv_d hq rfl rfl rfl rfl rfl (gv_dd (by omega) (t_Church_copyOf_78 X (d - 1) (by omega) E _ _ h1)) (S' := (37, [some (.ref 0), some (.int a1)], [], r2, E)) rfl ?_
            refine gv_n hq 1 (S' := (38, [some (.ref 0), some (.int a1)], [.int (nI 0)], r2, E)) rfl ?_
            cases h
            exact ev_ret hq rfl rfl ⟨rfl, rfl, rfl⟩
          · refine gv_if h (fun c2 h => ?_) (fun c2 h => ?_)
            · refine ev_ins hq rfl (S' := (34, [some (.ref 0), some (.int a1)], [.ref 93, .ref 19], D, E)) (gv_sw (fun z => ((33, [some (.ref 0), some (.int a1)], .int z :: [.ref 60, .ref 19], D, E) : mx_S)) c2 rfl) ?_
              obtain ⟨r3, h1, h⟩ := Option.bind_eq_some_iff.mp h
              refine gv_d hq rfl rfl rfl rfl rfl (gv_dd (by omega) (t_Church_copyOf_93 X (d - 1) (by omega) E _ _ h1)) (S' := (37, [some (.ref 0), some (.int a1)], [], r3, E)) rfl ?_
              refine gv_n hq 1 (S' := (38, [some (.ref 0), some (.int a1)], [.int (nI 0)], r3, E)) rfl ?_
              cases h
              exact ev_ret hq rfl rfl ⟨rfl, rfl, rfl⟩
            · cases h
    · refine gv_n hq 1 (S' := (11, [some (.ref 0), some (.int a1)], [.int (-2 : Int32)], D, E)) rfl ?_
      cases h
      exact ev_ret hq rfl rfl ⟨rfl, rfl, rfl⟩
def b_M_back_29 (F : Nat) (k29 : Int32 → Int32 → mx_D → Option (Int32 × mx_D)) (l1 : Int32) (l2 : Int32) (D : mx_D) : Option (Int32 × mx_D) := (if (nI 106) ≤ l2 then (some ((nI 0), D)) else (rk 318 (((nI 106) * l1) + l2) (rk 106 l2 (k29 l1 (l2 + (nI 1)) (sD D 117 (l2).toNatClampNeg (D 118 ((((nI 106) * l1) + l2)).toNatClampNeg))))))
set_option maxRecDepth 100000 in
set_option maxHeartbeats 4000000 in
theorem tb_M_back_29 (X : ev_X) (F : Nat) (d : Nat) (hd : 1 ≤ d + 1) (E : mx_E) (k29 : Int32 → Int32 → mx_D → Option (Int32 × mx_D)) (K29 : ∀ (l1 : Int32) (l2 : Int32) (D : mx_D) (v : Int32 × mx_D), k29 l1 l2 D = some v → ev X (d + 1) 184 (29, [some (.ref 116), some (.int l1), some (.int l2)], [], D, E) (qR (some (.int v.1)) v.2 E)) (l1 : Int32) (l2 : Int32) (D : mx_D) (v : Int32 × mx_D) (h : b_M_back_29 F k29 l1 l2 D = some v) : ev X (d + 1) 184 (29, [some (.ref 116), some (.int l1), some (.int l2)], [], D, E) (qR (some (.int v.1)) v.2 E) := by
  have hq : kq_m 184 = some kq_q184 := rfl
  unfold b_M_back_29 at h
  refine gv_n hq 2 (S' := (32, [some (.ref 116), some (.int l1), some (.int l2)], [.int (nI 106), .int l2], D, E)) rfl ?_
  refine gv_b hq rfl h 58 35 rfl rfl rfl (fun h => ?_) (fun h => ?_)
  · refine gv_n hq 1 (S' := (59, [some (.ref 116), some (.int l1), some (.int l2)], [.int (nI 0)], D, E)) rfl ?_
    cases h
    exact ev_ret hq rfl rfl ⟨rfl, rfl, rfl⟩
  · refine gv_n hq 10 (S' := (50, [some (.ref 116), some (.int l1), some (.int l2)], [.int (((nI 106) * l1) + l2), .ref 118, .int l2, .ref 117], D, E)) rfl ?_
    refine gv_ia hq rfl rfl rfl h 51 rfl (fun h => ?_)
    refine gv_is hq rfl rfl h 52 rfl (fun h => ?_)
    refine gv_n hq 2 (S' := (29, [some (.ref 116), some (.int l1), some (.int (l2 + (nI 1)))], [], (sD D 117 (l2).toNatClampNeg (D 118 ((((nI 106) * l1) + l2)).toNatClampNeg)), E)) rfl ?_
    exact gv_w (K29 _ _ _ _ h) (And.intro rfl (And.intro rfl (And.intro rfl trivial)))
def g_M_back_29 (F : Nat) : Nat → Int32 → Int32 → mx_D → Option (Int32 × mx_D) := it (fun k29 => b_M_back_29 F k29) (fun _ _ _ => none)
set_option maxRecDepth 100000 in
set_option maxHeartbeats 4000000 in
theorem t_M_back_29 (X : ev_X) (F : Nat) (d : Nat) (hd : 1 ≤ d + 1) (E : mx_E)  : ∀ (n : Nat) (l1 : Int32) (l2 : Int32) (D : mx_D) (v : Int32 × mx_D), g_M_back_29 F n l1 l2 D = some v → ev X (d + 1) 184 (29, [some (.ref 116), some (.int l1), some (.int l2)], [], D, E) (qR (some (.int v.1)) v.2 E) := by
  intro n
  induction n with
  | zero => intro l1 l2 D v h; cases h
  | succ n ih => intro l1 l2 D v h; exact tb_M_back_29 X F d hd E (g_M_back_29 F n) ih l1 l2 D v h
def g_M_back (F : Nat) (a1 : Int32) (D : mx_D) : Option (Int32 × mx_D) := (if (g_M_in ((a1).toInt64) (lN 0) (2 : Int64)) = 0 then (some ((-2 : Int32), D)) else (rk 3 a1 (if (D 119 (a1).toNatClampNeg) = 0 then (some ((-6 : Int32), D)) else (g_M_back_29 F F a1 (nI 0) D))))
set_option maxRecDepth 100000 in
set_option maxHeartbeats 4000000 in
theorem t_M_back (X : ev_X) (F : Nat) (d : Nat) (hd : 1 ≤ d + 1) (E : mx_E) (a1 : Int32) (D : mx_D) (v : Int32 × mx_D) (h : g_M_back F a1 D = some v) : ev X (d + 1) 184 (0, [some (.ref 116), some (.int a1), none], [], D, E) (qR (some (.int v.1)) v.2 E) := by
  have hq : kq_m 184 = some kq_q184 := rfl
  unfold g_M_back at h
  refine gv_n hq 4 (S' := (6, [some (.ref 116), some (.int a1), none], [.long (2 : Int64), .long (lN 0), .long ((a1).toInt64)], D, E)) rfl ?_
  refine gv_d hq rfl rfl rfl rfl rfl ((t_M_in X d D E _ _ _ _ rfl)) (S' := (9, [some (.ref 116), some (.int a1), none], [.int (g_M_in ((a1).toInt64) (lN 0) (2 : Int64))], D, E)) rfl ?_
  refine gv_b hq rfl h 12 15 rfl rfl rfl (fun h => ?_) (fun h => ?_)
  · refine gv_n hq 1 (S' := (14, [some (.ref 116), some (.int a1), none], [.int (-2 : Int32)], D, E)) rfl ?_
    cases h
    exact ev_ret hq rfl rfl ⟨rfl, rfl, rfl⟩
  · refine gv_n hq 3 (S' := (20, [some (.ref 116), some (.int a1), none], [.int a1, .ref 119], D, E)) rfl ?_
    refine gv_ba2 hq rfl rfl h 21 rfl (fun h => ?_)
    refine gv_b hq rfl h 24 27 rfl rfl rfl (fun h => ?_) (fun h => ?_)
    · refine gv_n hq 1 (S' := (26, [some (.ref 116), some (.int a1), none], [.int (-6 : Int32)], D, E)) rfl ?_
      cases h
      exact ev_ret hq rfl rfl ⟨rfl, rfl, rfl⟩
    · refine gv_n hq 2 (S' := (29, [some (.ref 116), some (.int a1), some (.int (nI 0))], [], D, E)) rfl ?_
      exact gv_w (t_M_back_29 X F d hd E F _ _ _ _ h) (And.intro rfl (And.intro rfl (And.intro rfl trivial)))
