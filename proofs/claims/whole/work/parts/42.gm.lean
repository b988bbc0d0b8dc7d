/-! ===== pictures of the methods and the rows that tie them to their frames, printed by a program of mine ===== -/
def b_M_paste_150 (F : Nat) (D : mx_D) (k150 : Int32 → Int32 → Int32 → Int32 → mx_E → Option (Int32 × mx_E)) (l3 : Int32) (l4 : Int32) (l5 : Int32) (l6 : Int32) (E : mx_E) : Option (Int32 × mx_E) := (if l5 ≤ l6 then (some ((nI 0), E)) else (rk 60 l6 (rk 240 ((((nI 60) * l3) + l4) + l6) (k150 l3 l4 l5 (l6 + (nI 1)) (sE E 139 (((((nI 60) * l3) + l4) + l6)).toNatClampNeg (E 140 (l6).toNatClampNeg))))))
set_option maxRecDepth 100000 in
set_option maxHeartbeats 4000000 in
theorem tb_M_paste_150 (X : ev_X) (F : Nat) (d : Nat) (hd : 2 ≤ d + 1) (D : mx_D) (k150 : Int32 → Int32 → Int32 → Int32 → mx_E → Option (Int32 × mx_E)) (K150 : ∀ (l3 : Int32) (l4 : Int32) (l5 : Int32) (l6 : Int32) (E : mx_E) (v : Int32 × mx_E), k150 l3 l4 l5 l6 E = some v → ev X (d + 1) 331 (150, [some (.ref 116), none, none, some (.int l3), some (.int l4), some (.int l5), some (.int l6)], [], D, E) (qR (some (.int v.1)) D v.2)) (l3 : Int32) (l4 : Int32) (l5 : Int32) (l6 : Int32) (E : mx_E) (v : Int32 × mx_E) (h : b_M_paste_150 F D k150 l3 l4 l5 l6 E = some v) : ev X (d + 1) 331 (150, [some (.ref 116), none, none, some (.int l3), some (.int l4), some (.int l5), some (.int l6)], [], D, E) (qR (some (.int v.1)) D v.2) := by
  have hq : kq_m 331 = some kq_q331 := rfl
  unfold b_M_paste_150 at h
  refine gv_n hq 2 (S' := (154, [some (.ref 116), none, none, some (.int l3), some (.int l4), some (.int l5), some (.int l6)], [.int l5, .int l6], D, E)) rfl ?_
  refine gv_b hq rfl h 185 157 rfl rfl rfl (fun h => ?_) (fun h => ?_)
  · refine gv_n hq 1 (S' := (186, [some (.ref 116), none, none, some (.int l3), some (.int l4), some (.int l5), some (.int l6)], [.int (nI 0)], D, E)) rfl ?_
    cases h
    exact ev_ret hq rfl rfl ⟨rfl, rfl, rfl⟩
  · refine gv_n hq 12 (S' := (177, [some (.ref 116), none, none, some (.int l3), some (.int l4), some (.int l5), some (.int l6)], [.int l6, .ref 140, .int ((((nI 60) * l3) + l4) + l6), .ref 139], D, E)) rfl ?_
    refine gv_la hq rfl rfl h 178 rfl (fun h => ?_)
    refine gv_ls hq rfl rfl h 179 rfl (fun h => ?_)
    refine gv_n hq 2 (S' := (150, [some (.ref 116), none, none, some (.int l3), some (.int l4), some (.int l5), some (.int (l6 + (nI 1)))], [], D, (sE E 139 (((((nI 60) * l3) + l4) + l6)).toNatClampNeg (E 140 (l6).toNatClampNeg)))) rfl ?_
    exact gv_w (K150 _ _ _ _ _ _ h) (And.intro rfl (And.intro rfl (And.intro rfl (And.intro rfl (And.intro rfl trivial)))))
def g_M_paste_150 (F : Nat) (D : mx_D) : Nat → Int32 → Int32 → Int32 → Int32 → mx_E → Option (Int32 × mx_E) := it (fun k150 => b_M_paste_150 F D k150) (fun _ _ _ _ _ => none)
set_option maxRecDepth 100000 in
set_option maxHeartbeats 4000000 in
theorem t_M_paste_150 (X : ev_X) (F : Nat) (d : Nat) (hd : 2 ≤ d + 1) (D : mx_D)  : ∀ (n : Nat) (l3 : Int32) (l4 : Int32) (l5 : Int32) (l6 : Int32) (E : mx_E) (v : Int32 × mx_E), g_M_paste_150 F D n l3 l4 l5 l6 E = some v → ev X (d + 1) 331 (150, [some (.ref 116), none, none, some (.int l3), some (.int l4), some (.int l5), some (.int l6)], [], D, E) (qR (some (.int v.1)) D v.2) := by
  intro n
  induction n with
  | zero => intro l3 l4 l5 l6 E v h; cases h
  | succ n ih => intro l3 l4 l5 l6 E v h; exact tb_M_paste_150 X F d hd D (g_M_paste_150 F D n) ih l3 l4 l5 l6 E v h
def b_M_paste_113 (F : Nat) (D : mx_D) (k113 : Int32 → Int32 → Int32 → Int32 → Int32 → Int32 → mx_E → Option (Int32 × mx_E)) (l1 : Int32) (l2 : Int32) (l3 : Int32) (l4 : Int32) (l5 : Int32) (l6 : Int32) (E : mx_E) : Option (Int32 × mx_E) := (if l5 ≤ l6 then (g_M_paste_150 F D F l3 l4 l5 (nI 0) E) else (rk 240 ((((nI 60) * l1) + l2) + l6) (rk 60 l6 (k113 l1 l2 l3 l4 l5 (l6 + (nI 1)) (sE E 140 (l6).toNatClampNeg (E 139 (((((nI 60) * l1) + l2) + l6)).toNatClampNeg))))))
set_option maxRecDepth 100000 in
set_option maxHeartbeats 4000000 in
theorem tb_M_paste_113 (X : ev_X) (F : Nat) (d : Nat) (hd : 2 ≤ d + 1) (D : mx_D) (k113 : Int32 → Int32 → Int32 → Int32 → Int32 → Int32 → mx_E → Option (Int32 × mx_E)) (K113 : ∀ (l1 : Int32) (l2 : Int32) (l3 : Int32) (l4 : Int32) (l5 : Int32) (l6 : Int32) (E : mx_E) (v : Int32 × mx_E), k113 l1 l2 l3 l4 l5 l6 E = some v → ev X (d + 1) 331 (113, [some (.ref 116), some (.int l1), some (.int l2), some (.int l3), some (.int l4), some (.int l5), some (.int l6)], [], D, E) (qR (some (.int v.1)) D v.2)) (l1 : Int32) (l2 : Int32) (l3 : Int32) (l4 : Int32) (l5 : Int32) (l6 : Int32) (E : mx_E) (v : Int32 × mx_E) (h : b_M_paste_113 F D k113 l1 l2 l3 l4 l5 l6 E = some v) : ev X (d + 1) 331 (113, [some (.ref 116), some (.int l1), some (.int l2), some (.int l3), some (.int l4), some (.int l5), some (.int l6)], [], D, E) (qR (some (.int v.1)) D v.2) := by
  have hq : kq_m 331 = some kq_q331 := rfl
  unfold b_M_paste_113 at h
  refine gv_n hq 2 (S' := (117, [some (.ref 116), some (.int l1), some (.int l2), some (.int l3), some (.int l4), some (.int l5), some (.int l6)], [.int l5, .int l6], D, E)) rfl ?_
  refine gv_b hq rfl h 147 120 rfl rfl rfl (fun h => ?_) (fun h => ?_)
  · refine gv_n hq 2 (S' := (150, [some (.ref 116), some (.int l1), some (.int l2), some (.int l3), some (.int l4), some (.int l5), some (.int (nI 0))], [], D, E)) rfl ?_
    exact gv_w (t_M_paste_150 X F d hd D F _ _ _ _ _ _ h) (And.intro rfl (And.intro rfl (And.intro rfl (And.intro rfl (And.intro rfl trivial)))))
  · refine gv_n hq 12 (S' := (139, [some (.ref 116), some (.int l1), some (.int l2), some (.int l3), some (.int l4), some (.int l5), some (.int l6)], [.int ((((nI 60) * l1) + l2) + l6), .ref 139, .int l6, .ref 140], D, E)) rfl ?_
    refine gv_la hq rfl rfl h 140 rfl (fun h => ?_)
    refine gv_ls hq rfl rfl h 141 rfl (fun h => ?_)
    refine gv_n hq 2 (S' := (113, [some (.ref 116), some (.int l1), some (.int l2), some (.int l3), some (.int l4), some (.int l5), some (.int (l6 + (nI 1)))], [], D, (sE E 140 (l6).toNatClampNeg (E 139 (((((nI 60) * l1) + l2) + l6)).toNatClampNeg)))) rfl ?_
    exact gv_w (K113 _ _ _ _ _ _ _ _ h) (And.intro rfl (And.intro rfl (And.intro rfl (And.intro rfl (And.intro rfl (And.intro rfl (And.intro rfl trivial)))))))
def g_M_paste_113 (F : Nat) (D : mx_D) : Nat → Int32 → Int32 → Int32 → Int32 → Int32 → Int32 → mx_E → Option (Int32 × mx_E) := it (fun k113 => b_M_paste_113 F D k113) (fun _ _ _ _ _ _ _ => none)
set_option maxRecDepth 100000 in
set_option maxHeartbeats 4000000 in
theorem t_M_paste_113 (X : ev_X) (F : Nat) (d : Nat) (hd : 2 ≤ d + 1) (D : mx_D)  : ∀ (n : Nat) (l1 : Int32) (l2 : Int32) (l3 : Int32) (l4 : Int32) (l5 : Int32) (l6 : Int32) (E : mx_E) (v : Int32 × mx_E), g_M_paste_113 F D n l1 l2 l3 l4 l5 l6 E = some v → ev X (d + 1) 331 (113, [some (.ref 116), some (.int l1), some (.int l2), some (.int l3), some (.int l4), some (.int l5), some (.int l6)], [], D, E) (qR (some (.int v.1)) D v.2) := by
  intro n
  induction n with
  | zero => intro l1 l2 l3 l4 l5 l6 E v h; cases h
  | succ n ih => intro l1 l2 l3 l4 l5 l6 E v h; exact tb_M_paste_113 X F d hd D (g_M_paste_113 F D n) ih l1 l2 l3 l4 l5 l6 E v h
def g_M_paste (F : Nat) (D : mx_D) (a1 : Int32) (a2 : Int32) (a3 : Int32) (a4 : Int32) (a5 : Int32) (E : mx_E) : Option (Int32 × mx_E) := (if (g_M_isSlot a1) = 0 then (some ((-2 : Int32), E)) else (if (g_M_isSlot a3) = 0 then (some ((-2 : Int32), E)) else (rk 4 a1 (if (D 137 (a1).toNatClampNeg) = (-1 : Int32) then (some ((-6 : Int32), E)) else (rk 4 a3 (if (D 137 (a3).toNatClampNeg) = (-1 : Int32) then (some ((-6 : Int32), E)) else (rk 4 a1 (rk 4 a3 (if (D 138 (a1).toNatClampNeg) = (D 138 (a3).toNatClampNeg) then (if a2 < 0 then (some ((-7 : Int32), E)) else (if a4 < 0 then (some ((-7 : Int32), E)) else (if a5 < 0 then (some ((-7 : Int32), E)) else (rk 4 a1 (if 0 < (lg_cmp (((a2).toInt64) + ((a5).toInt64)) (((D 137 (a1).toNatClampNeg)).toInt64)) then (some ((-7 : Int32), E)) else (rk 4 a3 (if (lg_cmp (((a4).toInt64) + ((a5).toInt64)) (((D 137 (a3).toNatClampNeg)).toInt64)) ≤ 0 then (g_M_paste_113 F D F a1 a2 a3 a4 a5 (nI 0) E) else (some ((-7 : Int32), E))))))))) else (some ((-8 : Int32), E)))))))))))
set_option maxRecDepth 100000 in
set_option maxHeartbeats 4000000 in
theorem t_M_paste (X : ev_X) (F : Nat) (d : Nat) (hd : 2 ≤ d + 1) (D : mx_D) (a1 : Int32) (a2 : Int32) (a3 : Int32) (a4 : Int32) (a5 : Int32) (E : mx_E) (v : Int32 × mx_E) (h : g_M_paste F D a1 a2 a3 a4 a5 E = some v) : ev X (d + 1) 331 (0, [some (.ref 116), some (.int a1), some (.int a2), some (.int a3), some (.int a4), some (.int a5), none], [], D, E) (qR (some (.int v.1)) D v.2) := by
  have hq : kq_m 331 = some kq_q331 := rfl
  unfold g_M_paste at h
  refine gv_n hq 1 (S' := (1, [some (.ref 116), some (.int a1), some (.int a2), some (.int a3), some (.int a4), some (.int a5), none], [.int a1], D, E)) rfl ?_
  refine gv_d hq rfl rfl rfl rfl rfl (gv_dd (by omega) (t_M_isSlot X (d - 1) (by omega) D E _ _ rfl)) (S' := (4, [some (.ref 116), some (.int a1), some (.int a2), some (.int a3), some (.int a4), some (.int a5), none], [.int (g_M_isSlot a1)], D, E)) rfl ?_
  refine gv_b hq rfl h 14 7 rfl rfl rfl (fun h => ?_) (fun h => ?_)
  · refine gv_n hq 1 (S' := (16, [some (.ref 116), some (.int a1), some (.int a2), some (.int a3), some (.int a4), some (.int a5), none], [.int (-2 : Int32)], D, E)) rfl ?_
    cases h
    exact ev_ret hq rfl rfl ⟨rfl, rfl, rfl⟩
  · refine gv_n hq 1 (S' := (8, [some (.ref 116), some (.int a1), some (.int a2), some (.int a3), some (.int a4), some (.int a5), none], [.int a3], D, E)) rfl ?_
    refine gv_d hq rfl rfl rfl rfl rfl (gv_dd (by omega) (t_M_isSlot X (d - 1) (by omega) D E _ _ rfl)) (S' := (11, [some (.ref 116), some (.int a1), some (.int a2), some (.int a3), some (.int a4), some (.int a5), none], [.int (g_M_isSlot a3)], D, E)) rfl ?_
    refine gv_b hq rfl h 14 17 rfl rfl rfl (fun h => ?_) (fun h => ?_)
    · refine gv_n hq 1 (S' := (16, [some (.ref 116), some (.int a1), some (.int a2), some (.int a3), some (.int a4), some (.int a5), none], [.int (-2 : Int32)], D, E)) rfl ?_
      cases h
      exact ev_ret hq rfl rfl ⟨rfl, rfl, rfl⟩
    · refine gv_n hq 3 (S' := (22, [some (.ref 116), some (.int a1), some (.int a2), some (.int a3), some (.int a4), some (.int a5), none], [.int a1, .ref 137], D, E)) rfl ?_
      refine gv_ia hq rfl rfl rfl h 23 rfl (fun h => ?_)
      refine gv_n hq 1 (S' := (24, [some (.ref 116), some (.int a1), some (.int a2), some (.int a3), some (.int a4), some (.int a5), none], [.int (-1 : Int32), .int (D 137 (a1).toNatClampNeg)], D, E)) rfl ?_
      refine gv_b hq rfl h 37 27 rfl rfl rfl (fun h => ?_) (fun h => ?_)
      · refine gv_n hq 1 (S' := (39, [some (.ref 116), some (.int a1), some (.int a2), some (.int a3), some (.int a4), some (.int a5), none], [.int (-6 : Int32)], D, E)) rfl ?_
        cases h
        exact ev_ret hq rfl rfl ⟨rfl, rfl, rfl⟩
      · refine gv_n hq 3 (S' := (32, [some (.ref 116), some (.int a1), some (.int a2), some (.int a3), some (.int a4), some (.int a5), none], [.int a3, .ref 137], D, E)) rfl ?_
        refine gv_ia hq rfl rfl rfl h 33 rfl (fun h => ?_)
        refine gv_n hq 1 (S' := (34, [some (.ref 116), some (.int a1), some (.int a2), some (.int a3), some (.int a4), some (.int a5), none], [.int (-1 : Int32), .int (D 137 (a3).toNatClampNeg)], D, E)) rfl ?_
        refine gv_b hq rfl h 37 40 rfl rfl rfl (fun h => ?_) (fun h => ?_)
        · refine gv_n hq 1 (S' := (39, [some (.ref 116), some (.int a1), some (.int a2), some (.int a3), some (.int a4), some (.int a5), none], [.int (-6 : Int32)], D, E)) rfl ?_
          cases h
          exact ev_ret hq rfl rfl ⟨rfl, rfl, rfl⟩
        · refine gv_n hq 3 (S' := (45, [some (.ref 116), some (.int a1), some (.int a2), some (.int a3), some (.int a4), some (.int a5), none], [.int a1, .ref 138], D, E)) rfl ?_
          refine gv_ia hq rfl rfl rfl h 46 rfl (fun h => ?_)
          refine gv_n hq 3 (S' := (51, [some (.ref 116), some (.int a1), some (.int a2), some (.int a3), some (.int a4), some (.int a5), none], [.int a3, .ref 138, .int (D 138 (a1).toNatClampNeg)], D, E)) rfl ?_
          refine gv_ia hq rfl rfl rfl h 52 rfl (fun h => ?_)
          refine gv_b hq rfl h 58 55 rfl rfl rfl (fun h => ?_) (fun h => ?_)
          · refine gv_n hq 1 (S' := (59, [some (.ref 116), some (.int a1), some (.int a2), some (.int a3), some (.int a4), some (.int a5), none], [.int a2], D, E)) rfl ?_
            refine gv_b hq rfl h 107 62 rfl rfl rfl (fun h => ?_) (fun h => ?_)
            · refine gv_n hq 1 (S' := (109, [some (.ref 116), some (.int a1), some (.int a2), some (.int a3), some (.int a4), some (.int a5), none], [.int (-7 : Int32)], D, E)) rfl ?_
              cases h
              exact ev_ret hq rfl rfl ⟨rfl, rfl, rfl⟩
            · refine gv_n hq 1 (S' := (64, [some (.ref 116), some (.int a1), some (.int a2), some (.int a3), some (.int a4), some (.int a5), none], [.int a4], D, E)) rfl ?_
              refine gv_b hq rfl h 107 67 rfl rfl rfl (fun h => ?_) (fun h => ?_)
              · refine gv_n hq 1 (S' := (109, [some (.ref 116), some (.int a1), some (.int a2), some (.int a3), some (.int a4), some (.int a5), none], [.int (-7 : Int32)], D, E)) rfl ?_
                cases h
                exact ev_ret hq rfl rfl ⟨rfl, rfl, rfl⟩
              · refine gv_n hq 1 (S' := (69, [some (.ref 116), some (.int a1), some (.int a2), some (.int a3), some (.int a4), some (.int a5), none], [.int a5], D, E)) rfl ?_
                refine gv_b hq rfl h 107 72 rfl rfl rfl (fun h => ?_) (fun h => ?_)
                · refine gv_n hq 1 (S' := (109, [some (.ref 116), some (.int a1), some (.int a2), some (.int a3), some (.int a4), some (.int a5), none], [.int (-7 : Int32)], D, E)) rfl ?_
                  cases h
                  exact ev_ret hq rfl rfl ⟨rfl, rfl, rfl⟩
                · refine gv_n hq 8 (S' := (83, [some (.ref 116), some (.int a1), some (.int a2), some (.int a3), some (.int a4), some (.int a5), none], [.int a1, .ref 137, .long (((a2).toInt64) + ((a5).toInt64))], D, E)) rfl ?_
                  refine gv_ia hq rfl rfl rfl h 84 rfl (fun h => ?_)
                  refine gv_n hq 2 (S' := (86, [some (.ref 116), some (.int a1), some (.int a2), some (.int a3), some (.int a4), some (.int a5), none], [.int (lg_cmp (((a2).toInt64) + ((a5).toInt64)) (((D 137 (a1).toNatClampNeg)).toInt64))], D, E)) rfl ?_
                  refine gv_b hq rfl h 107 89 rfl rfl rfl (fun h => ?_) (fun h => ?_)
                  · refine gv_n hq 1 (S' := (109, [some (.ref 116), some (.int a1), some (.int a2), some (.int a3), some (.int a4), some (.int a5), none], [.int (-7 : Int32)], D, E)) rfl ?_
                    cases h
                    exact ev_ret hq rfl rfl ⟨rfl, rfl, rfl⟩
                  · refine gv_n hq 8 (S' := (101, [some (.ref 116), some (.int a1), some (.int a2), some (.int a3), some (.int a4), some (.int a5), none], [.int a3, .ref 137, .long (((a4).toInt64) + ((a5).toInt64))], D, E)) rfl ?_
                    refine gv_ia hq rfl rfl rfl h 102 rfl (fun h => ?_)
                    refine gv_n hq 2 (S' := (104, [some (.ref 116), some (.int a1), some (.int a2), some (.int a3), some (.int a4), some (.int a5), none], [.int (lg_cmp (((a4).toInt64) + ((a5).toInt64)) (((D 137 (a3).toNatClampNeg)).toInt64))], D, E)) rfl ?_
                    refine gv_b hq rfl h 110 107 rfl rfl rfl (fun h => ?_) (fun h => ?_)
                    · refine gv_n hq 2 (S' := (113, [some (.ref 116), some (.int a1), some (.int a2), some (.int a3), some (.int a4), some (.int a5), some (.int (nI 0))], [], D, E)) rfl ?_
                      exact gv_w (t_M_paste_113 X F d hd D F _ _ _ _ _ _ _ _ h) (And.intro rfl (And.intro rfl (And.intro rfl (And.intro rfl (And.intro rfl (And.intro rfl (And.intro rfl trivial)))))))
                    · refine gv_n hq 1 (S' := (109, [some (.ref 116), some (.int a1), some (.int a2), some (.int a3), some (.int a4), some (.int a5), none], [.int (-7 : Int32)], D, E)) rfl ?_
                      cases h
                      exact ev_ret hq rfl rfl ⟨rfl, rfl, rfl⟩
          · refine gv_n hq 1 (S' := (57, [some (.ref 116), some (.int a1), some (.int a2), some (.int a3), some (.int a4), some (.int a5), none], [.int (-8 : Int32)], D, E)) rfl ?_
            cases h
            exact ev_ret hq rfl rfl ⟨rfl, rfl, rfl⟩
def b_law_18 (F : Nat) (X : ev_X) (k18 : Int32 → mx_D → mx_E → Option (Int32 × mx_D × mx_E)) (l3 : Int32) (D : mx_D) (E : mx_E) : Option (Int32 × mx_D × mx_E) := (if ((nI X.1) - (nI 6)) < l3 then (some ((nI 1), D, E)) else (rk X.1 l3 (if ((X.2 (l3).toNatClampNeg) &&& (nI 63)) = (nI 0) then (rk X.1 (l3 + (nI 1)) (rk X.1 (l3 + (nI 2)) (rk X.1 (l3 + (nI 3)) (rk X.1 (l3 + (nI 4)) (rk X.1 (l3 + (nI 5)) (Option.bind (g_X_feed F (X.2 ((l3 + (nI 1))).toNatClampNeg) (X.2 ((l3 + (nI 2))).toNatClampNeg) (X.2 ((l3 + (nI 3))).toNatClampNeg) (X.2 ((l3 + (nI 4))).toNatClampNeg) (X.2 ((l3 + (nI 5))).toNatClampNeg) D) (fun r1 => (rk X.1 (l3 + (nI 1)) (rk X.1 (l3 + (nI 2)) (rk X.1 (l3 + (nI 3)) (rk X.1 (l3 + (nI 4)) (rk X.1 (l3 + (nI 5)) (Option.bind (g_M_feed F (X.2 ((l3 + (nI 1))).toNatClampNeg) (X.2 ((l3 + (nI 2))).toNatClampNeg) (X.2 ((l3 + (nI 3))).toNatClampNeg) (X.2 ((l3 + (nI 4))).toNatClampNeg) (X.2 ((l3 + (nI 5))).toNatClampNeg) r1.2) (fun r2 => (if r1.1 = r2.1 then (k18 (l3 + (nI 6)) r2.2 E) else (some ((nI 0), r2.2, E))))))))))))))))) else (if ((X.2 (l3).toNatClampNeg) &&& (nI 63)) = (nI 1) then (rk X.1 (l3 + (nI 1)) (rk X.1 (l3 + (nI 1)) (if (g_X_end (X.2 ((l3 + (nI 1))).toNatClampNeg) D).1 = (g_M_end (X.2 ((l3 + (nI 1))).toNatClampNeg) (g_X_end (X.2 ((l3 + (nI 1))).toNatClampNeg) D).2).1 then (k18 (l3 + (nI 6)) (g_M_end (X.2 ((l3 + (nI 1))).toNatClampNeg) (g_X_end (X.2 ((l3 + (nI 1))).toNatClampNeg) D).2).2 E) else (some ((nI 0), (g_M_end (X.2 ((l3 + (nI 1))).toNatClampNeg) (g_X_end (X.2 ((l3 + (nI 1))).toNatClampNeg) D).2).2, E))))) else (if ((X.2 (l3).toNatClampNeg) &&& (nI 63)) = (nI 2) then (Option.bind (g_X_church F D) (fun r3 => (Option.bind (g_M_church F r3.2) (fun r4 => (if r3.1 = r4.1 then (k18 (l3 + (nI 6)) r4.2 E) else (some ((nI 0), r4.2, E))))))) else (if ((X.2 (l3).toNatClampNeg) &&& (nI 63)) = (nI 3) then (rk X.1 (l3 + (nI 1)) (rk X.1 (l3 + (nI 1)) (if (g_X_fault D (X.2 ((l3 + (nI 1))).toNatClampNeg)) = (g_M_fault D (X.2 ((l3 + (nI 1))).toNatClampNeg)) then (k18 (l3 + (nI 6)) D E) else (some ((nI 0), D, E))))) else (if ((X.2 (l3).toNatClampNeg) &&& (nI 63)) = (nI 4) then (rk X.1 (l3 + (nI 1)) (rk X.1 (l3 + (nI 2)) (Option.bind (g_X_pew F D (X.2 ((l3 + (nI 1))).toNatClampNeg) (X.2 ((l3 + (nI 2))).toNatClampNeg)) (fun r5 => (rk X.1 (l3 + (nI 1)) (rk X.1 (l3 + (nI 2)) (Option.bind (g_M_pew F D (X.2 ((l3 + (nI 1))).toNatClampNeg) (X.2 ((l3 + (nI 2))).toNatClampNeg)) (fun r6 => (if r5 = r6 then (k18 (l3 + (nI 6)) D E) else (some ((nI 0), D, E))))))))))) else (if ((X.2 (l3).toNatClampNeg) &&& (nI 63)) = (nI 5) then (rk X.1 (l3 + (nI 1)) (rk X.1 (l3 + (nI 2)) (Option.bind (g_X_floor D (X.2 ((l3 + (nI 1))).toNatClampNeg) (X.2 ((l3 + (nI 2))).toNatClampNeg)) (fun r7 => (rk X.1 (l3 + (nI 1)) (rk X.1 (l3 + (nI 2)) (Option.bind (g_M_floor D (X.2 ((l3 + (nI 1))).toNatClampNeg) (X.2 ((l3 + (nI 2))).toNatClampNeg)) (fun r8 => (if r7 = r8 then (k18 (l3 + (nI 6)) D E) else (some ((nI 0), D, E))))))))))) else (if ((X.2 (l3).toNatClampNeg) &&& (nI 63)) = (nI 6) then (rk X.1 (l3 + (nI 1)) (rk X.1 (l3 + (nI 2)) (Option.bind (g_X_who F D (X.2 ((l3 + (nI 1))).toNatClampNeg) (X.2 ((l3 + (nI 2))).toNatClampNeg)) (fun r9 => (rk X.1 (l3 + (nI 1)) (rk X.1 (l3 + (nI 2)) (Option.bind (g_M_who F D (X.2 ((l3 + (nI 1))).toNatClampNeg) (X.2 ((l3 + (nI 2))).toNatClampNeg)) (fun r10 => (if r9 = r10 then (k18 (l3 + (nI 6)) D E) else (some ((nI 0), D, E))))))))))) else (if ((X.2 (l3).toNatClampNeg) &&& (nI 63)) = (nI 7) then (rk X.1 (l3 + (nI 1)) (rk X.1 (l3 + (nI 2)) (Option.bind (g_X_person F D (X.2 ((l3 + (nI 1))).toNatClampNeg) (X.2 ((l3 + (nI 2))).toNatClampNeg)) (fun r11 => (rk X.1 (l3 + (nI 1)) (rk X.1 (l3 + (nI 2)) (Option.bind (g_M_person F D (X.2 ((l3 + (nI 1))).toNatClampNeg) (X.2 ((l3 + (nI 2))).toNatClampNeg)) (fun r12 => (if r11 = r12 then (k18 (l3 + (nI 6)) D E) else (some ((nI 0), D, E))))))))))) else (if ((X.2 (l3).toNatClampNeg) &&& (nI 63)) = (nI 8) then (rk X.1 (l3 + (nI 1)) (rk X.1 (l3 + (nI 2)) (Option.bind (g_X_thing D (X.2 ((l3 + (nI 1))).toNatClampNeg) (X.2 ((l3 + (nI 2))).toNatClampNeg)) (fun r13 => (rk X.1 (l3 + (nI 1)) (rk X.1 (l3 + (nI 2)) (Option.bind (g_M_thing D (X.2 ((l3 + (nI 1))).toNatClampNeg) (X.2 ((l3 + (nI 2))).toNatClampNeg)) (fun r14 => (if r13 = r14 then (k18 (l3 + (nI 6)) D E) else (some ((nI 0), D, E))))))))))) else (if ((X.2 (l3).toNatClampNeg) &&& (nI 63)) = (nI 9) then (rk X.1 (l3 + (nI 1)) (rk X.1 (l3 + (nI 2)) (Option.bind (g_X_high F D (X.2 ((l3 + (nI 1))).toNatClampNeg) (X.2 ((l3 + (nI 2))).toNatClampNeg)) (fun r15 => (rk X.1 (l3 + (nI 1)) (rk X.1 (l3 + (nI 2)) (Option.bind (g_M_high F D (X.2 ((l3 + (nI 1))).toNatClampNeg) (X.2 ((l3 + (nI 2))).toNatClampNeg)) (fun r16 => (if r15 = r16 then (k18 (l3 + (nI 6)) D E) else (some ((nI 0), D, E))))))))))) else (if ((X.2 (l3).toNatClampNeg) &&& (nI 63)) = (nI 10) then (rk X.1 (l3 + (nI 1)) (rk X.1 (l3 + (nI 2)) (Option.bind (g_X_spread F (X.2 ((l3 + (nI 1))).toNatClampNeg) (X.2 ((l3 + (nI 2))).toNatClampNeg) D) (fun r17 => (rk X.1 (l3 + (nI 1)) (rk X.1 (l3 + (nI 2)) (Option.bind (g_M_spread F (X.2 ((l3 + (nI 1))).toNatClampNeg) (X.2 ((l3 + (nI 2))).toNatClampNeg) r17.2) (fun r18 => (if r17.1 = r18.1 then (k18 (l3 + (nI 6)) r18.2 E) else (some ((nI 0), r18.2, E))))))))))) else (if ((X.2 (l3).toNatClampNeg) &&& (nI 63)) = (nI 11) then (rk X.1 (l3 + (nI 1)) (Option.bind (g_X_level F (X.2 ((l3 + (nI 1))).toNatClampNeg) D) (fun r19 => (rk X.1 (l3 + (nI 1)) (Option.bind (g_M_level F (X.2 ((l3 + (nI 1))).toNatClampNeg) r19.2) (fun r20 => (if r19.1 = r20.1 then (k18 (l3 + (nI 6)) r20.2 E) else (some ((nI 0), r20.2, E))))))))) else (if ((X.2 (l3).toNatClampNeg) &&& (nI 63)) = (nI 12) then (rk X.1 (l3 + (nI 1)) (Option.bind (g_X_first F (X.2 ((l3 + (nI 1))).toNatClampNeg) D) (fun r21 => (rk X.1 (l3 + (nI 1)) (Option.bind (g_M_first F (X.2 ((l3 + (nI 1))).toNatClampNeg) r21.2) (fun r22 => (if r21.1 = r22.1 then (k18 (l3 + (nI 6)) r22.2 E) else (some ((nI 0), r22.2, E))))))))) else (if ((X.2 (l3).toNatClampNeg) &&& (nI 63)) = (nI 13) then (rk X.1 (l3 + (nI 1)) (rk X.1 (l3 + (nI 2)) (Option.bind (g_X_out F (X.2 ((l3 + (nI 1))).toNatClampNeg) (X.2 ((l3 + (nI 2))).toNatClampNeg) D) (fun r23 => (rk X.1 (l3 + (nI 1)) (rk X.1 (l3 + (nI 2)) (Option.bind (g_M_out F (X.2 ((l3 + (nI 1))).toNatClampNeg) (X.2 ((l3 + (nI 2))).toNatClampNeg) r23.2) (fun r24 => (if r23.1 = r24.1 then (k18 (l3 + (nI 6)) r24.2 E) else (some ((nI 0), r24.2, E))))))))))) else (if ((X.2 (l3).toNatClampNeg) &&& (nI 63)) = (nI 14) then (rk X.1 (l3 + (nI 1)) (rk X.1 (l3 + (nI 2)) (Option.bind (g_X_above F (X.2 ((l3 + (nI 1))).toNatClampNeg) (X.2 ((l3 + (nI 2))).toNatClampNeg) D) (fun r25 => (rk X.1 (l3 + (nI 1)) (rk X.1 (l3 + (nI 2)) (Option.bind (g_M_above F (X.2 ((l3 + (nI 1))).toNatClampNeg) (X.2 ((l3 + (nI 2))).toNatClampNeg) r25.2) (fun r26 => (if r25.1 = r26.1 then (k18 (l3 + (nI 6)) r26.2 E) else (some ((nI 0), r26.2, E))))))))))) else (if ((X.2 (l3).toNatClampNeg) &&& (nI 63)) = (nI 15) then (rk X.1 (l3 + (nI 1)) (Option.bind (g_X_saws F (X.2 ((l3 + (nI 1))).toNatClampNeg) D) (fun r27 => (rk X.1 (l3 + (nI 1)) (Option.bind (g_M_saws F (X.2 ((l3 + (nI 1))).toNatClampNeg) r27.2) (fun r28 => (if r27.1 = r28.1 then (k18 (l3 + (nI 6)) r28.2 E) else (some ((nI 0), r28.2, E))))))))) else (if ((X.2 (l3).toNatClampNeg) &&& (nI 63)) = (nI 16) then (rk X.1 (l3 + (nI 1)) (rk X.1 (l3 + (nI 2)) (Option.bind (g_X_saw F (X.2 ((l3 + (nI 1))).toNatClampNeg) (X.2 ((l3 + (nI 2))).toNatClampNeg) D) (fun r29 => (rk X.1 (l3 + (nI 1)) (rk X.1 (l3 + (nI 2)) (Option.bind (g_M_saw F (X.2 ((l3 + (nI 1))).toNatClampNeg) (X.2 ((l3 + (nI 2))).toNatClampNeg) r29.2) (fun r30 => (if r29.1 = r30.1 then (k18 (l3 + (nI 6)) r30.2 E) else (some ((nI 0), r30.2, E))))))))))) else (if ((X.2 (l3).toNatClampNeg) &&& (nI 63)) = (nI 17) then (rk X.1 (l3 + (nI 1)) (Option.bind (g_X_ways F (X.2 ((l3 + (nI 1))).toNatClampNeg) D) (fun r31 => (rk X.1 (l3 + (nI 1)) (Option.bind (g_M_ways F (X.2 ((l3 + (nI 1))).toNatClampNeg) r31.2) (fun r32 => (if r31.1 = r32.1 then (k18 (l3 + (nI 6)) r32.2 E) else (some ((nI 0), r32.2, E))))))))) else (if ((X.2 (l3).toNatClampNeg) &&& (nI 63)) = (nI 18) then (rk X.1 (l3 + (nI 1)) (Option.bind (g_X_ever F (X.2 ((l3 + (nI 1))).toNatClampNeg) D) (fun r33 => (rk X.1 (l3 + (nI 1)) (Option.bind (g_M_ever F (X.2 ((l3 + (nI 1))).toNatClampNeg) r33.2) (fun r34 => (if r33.1 = r34.1 then (k18 (l3 + (nI 6)) r34.2 E) else (some ((nI 0), r34.2, E))))))))) else (if ((X.2 (l3).toNatClampNeg) &&& (nI 63)) = (nI 19) then (rk X.1 (l3 + (nI 1)) (rk X.1 (l3 + (nI 2)) (Option.bind (g_X_sawn F (X.2 ((l3 + (nI 1))).toNatClampNeg) (X.2 ((l3 + (nI 2))).toNatClampNeg) D) (fun r35 => (rk X.1 (l3 + (nI 1)) (rk X.1 (l3 + (nI 2)) (Option.bind (g_M_sawn F (X.2 ((l3 + (nI 1))).toNatClampNeg) (X.2 ((l3 + (nI 2))).toNatClampNeg) r35.2) (fun r36 => (if r35.1 = r36.1 then (k18 (l3 + (nI 6)) r36.2 E) else (some ((nI 0), r36.2, E))))))))))) else (if ((X.2 (l3).toNatClampNeg) &&& (nI 63)) = (nI 20) then (Option.bind (g_X_lasts F D) (fun r37 => (Option.bind (g_M_lasts F r37.2) (fun r38 => (if r37.1 = r38.1 then (k18 (l3 + (nI 6)) r38.2 E) else (some ((nI 0), r38.2, E))))))) else (if ((X.2 (l3).toNatClampNeg) &&& (nI 63)) = (nI 21) then (rk X.1 (l3 + (nI 1)) (Option.bind (g_X_clash F (X.2 ((l3 + (nI 1))).toNatClampNeg) D) (fun r39 => (rk X.1 (l3 + (nI 1)) (Option.bind (g_M_clash F (X.2 ((l3 + (nI 1))).toNatClampNeg) r39.2) (fun r40 => (if r39.1 = r40.1 then (k18 (l3 + (nI 6)) r40.2 E) else (some ((nI 0), r40.2, E))))))))) else (if ((X.2 (l3).toNatClampNeg) &&& (nI 63)) = (nI 22) then (rk X.1 (l3 + (nI 1)) (Option.bind (g_X_shuts F (X.2 ((l3 + (nI 1))).toNatClampNeg) D) (fun r41 => (rk X.1 (l3 + (nI 1)) (Option.bind (g_M_shuts F (X.2 ((l3 + (nI 1))).toNatClampNeg) r41.2) (fun r42 => (if r41.1 = r42.1 then (k18 (l3 + (nI 6)) r42.2 E) else (some ((nI 0), r42.2, E))))))))) else (if ((X.2 (l3).toNatClampNeg) &&& (nI 63)) = (nI 23) then (rk X.1 (l3 + (nI 1)) (rk X.1 (l3 + (nI 2)) (Option.bind (g_X_cut (X.2 ((l3 + (nI 1))).toNatClampNeg) (X.2 ((l3 + (nI 2))).toNatClampNeg) D) (fun r43 => (rk X.1 (l3 + (nI 1)) (rk X.1 (l3 + (nI 2)) (Option.bind (g_M_cut (X.2 ((l3 + (nI 1))).toNatClampNeg) (X.2 ((l3 + (nI 2))).toNatClampNeg) r43.2) (fun r44 => (if r43.1 = r44.1 then (k18 (l3 + (nI 6)) r44.2 E) else (some ((nI 0), r44.2, E))))))))))) else (if ((X.2 (l3).toNatClampNeg) &&& (nI 63)) = (nI 24) then (rk X.1 (l3 + (nI 1)) (Option.bind (g_X_books F (X.2 ((l3 + (nI 1))).toNatClampNeg) D) (fun r45 => (rk X.1 (l3 + (nI 1)) (Option.bind (g_M_books F (X.2 ((l3 + (nI 1))).toNatClampNeg) r45.2) (fun r46 => (if r45.1 = r46.1 then (k18 (l3 + (nI 6)) r46.2 E) else (some ((nI 0), r46.2, E))))))))) else (if ((X.2 (l3).toNatClampNeg) &&& (nI 63)) = (nI 25) then (rk X.1 (l3 + (nI 1)) (rk X.1 (l3 + (nI 2)) (Option.bind (g_X_given F (X.2 ((l3 + (nI 1))).toNatClampNeg) (X.2 ((l3 + (nI 2))).toNatClampNeg) D) (fun r47 => (rk X.1 (l3 + (nI 1)) (rk X.1 (l3 + (nI 2)) (Option.bind (g_M_given F (X.2 ((l3 + (nI 1))).toNatClampNeg) (X.2 ((l3 + (nI 2))).toNatClampNeg) r47.2) (fun r48 => (if r47.1 = r48.1 then (k18 (l3 + (nI 6)) r48.2 E) else (some ((nI 0), r48.2, E))))))))))) else (if ((X.2 (l3).toNatClampNeg) &&& (nI 63)) = (nI 26) then (rk X.1 (l3 + (nI 1)) (Option.bind (g_X_gifts F (X.2 ((l3 + (nI 1))).toNatClampNeg) D) (fun r49 => (rk X.1 (l3 + (nI 1)) (Option.bind (g_M_gifts F (X.2 ((l3 + (nI 1))).toNatClampNeg) r49.2) (fun r50 => (if r49.1 = r50.1 then (k18 (l3 + (nI 6)) r50.2 E) else (some ((nI 0), r50.2, E))))))))) else (if ((X.2 (l3).toNatClampNeg) &&& (nI 63)) = (nI 27) then (rk X.1 (l3 + (nI 1)) (Option.bind (g_X_hats F (X.2 ((l3 + (nI 1))).toNatClampNeg) D) (fun r51 => (rk X.1 (l3 + (nI 1)) (Option.bind (g_M_hats F (X.2 ((l3 + (nI 1))).toNatClampNeg) r51.2) (fun r52 => (if r51.1 = r52.1 then (k18 (l3 + (nI 6)) r52.2 E) else (some ((nI 0), r52.2, E))))))))) else (if ((X.2 (l3).toNatClampNeg) &&& (nI 63)) = (nI 28) then (rk X.1 (l3 + (nI 1)) (rk X.1 (l3 + (nI 2)) (Option.bind (g_X_handed F (X.2 ((l3 + (nI 1))).toNatClampNeg) (X.2 ((l3 + (nI 2))).toNatClampNeg) D) (fun r53 => (rk X.1 (l3 + (nI 1)) (rk X.1 (l3 + (nI 2)) (Option.bind (g_M_handed F (X.2 ((l3 + (nI 1))).toNatClampNeg) (X.2 ((l3 + (nI 2))).toNatClampNeg) r53.2) (fun r54 => (if r53.1 = r54.1 then (k18 (l3 + (nI 6)) r54.2 E) else (some ((nI 0), r54.2, E))))))))))) else (if ((X.2 (l3).toNatClampNeg) &&& (nI 63)) = (nI 29) then (rk X.1 (l3 + (nI 1)) (rk X.1 (l3 + (nI 2)) (Option.bind (g_X_rings F (X.2 ((l3 + (nI 1))).toNatClampNeg) (X.2 ((l3 + (nI 2))).toNatClampNeg) D) (fun r55 => (rk X.1 (l3 + (nI 1)) (rk X.1 (l3 + (nI 2)) (Option.bind (g_M_rings F (X.2 ((l3 + (nI 1))).toNatClampNeg) (X.2 ((l3 + (nI 2))).toNatClampNeg) r55.2) (fun r56 => (if r55.1 = r56.1 then (k18 (l3 + (nI 6)) r56.2 E) else (some ((nI 0), r56.2, E))))))))))) else (if ((X.2 (l3).toNatClampNeg) &&& (nI 63)) = (nI 30) then (Option.bind (g_X_bare F D) (fun r57 => (Option.bind (g_M_bare F D) (fun r58 => (if r57 = r58 then (k18 (l3 + (nI 6)) D E) else (some ((nI 0), D, E))))))) else (if ((X.2 (l3).toNatClampNeg) &&& (nI 63)) = (nI 31) then (rk X.1 (l3 + (nI 1)) (Option.bind (g_X_kinds F (X.2 ((l3 + (nI 1))).toNatClampNeg) D) (fun r59 => (rk X.1 (l3 + (nI 1)) (Option.bind (g_M_kinds F (X.2 ((l3 + (nI 1))).toNatClampNeg) r59.2) (fun r60 => (if r59.1 = r60.1 then (k18 (l3 + (nI 6)) r60.2 E) else (some ((nI 0), r60.2, E))))))))) else (if ((X.2 (l3).toNatClampNeg) &&& (nI 63)) = (nI 32) then (rk X.1 (l3 + (nI 1)) (rk X.1 (l3 + (nI 2)) (Option.bind (g_X_wide F (X.2 ((l3 + (nI 1))).toNatClampNeg) (X.2 ((l3 + (nI 2))).toNatClampNeg) D) (fun r61 => (rk X.1 (l3 + (nI 1)) (rk X.1 (l3 + (nI 2)) (Option.bind (g_M_wide F (X.2 ((l3 + (nI 1))).toNatClampNeg) (X.2 ((l3 + (nI 2))).toNatClampNeg) r61.2) (fun r62 => (if r61.1 = r62.1 then (k18 (l3 + (nI 6)) r62.2 E) else (some ((nI 0), r62.2, E))))))))))) else (if ((X.2 (l3).toNatClampNeg) &&& (nI 63)) = (nI 33) then (rk X.1 (l3 + (nI 1)) (Option.bind (g_X_away F (X.2 ((l3 + (nI 1))).toNatClampNeg) D) (fun r63 => (rk X.1 (l3 + (nI 1)) (Option.bind (g_M_away F (X.2 ((l3 + (nI 1))).toNatClampNeg) r63.2) (fun r64 => (if r63.1 = r64.1 then (k18 (l3 + (nI 6)) r64.2 E) else (some ((nI 0), r64.2, E))))))))) else (if ((X.2 (l3).toNatClampNeg) &&& (nI 63)) = (nI 34) then (rk X.1 (l3 + (nI 1)) (Option.bind (g_X_stay F (X.2 ((l3 + (nI 1))).toNatClampNeg) D) (fun r65 => (rk X.1 (l3 + (nI 1)) (Option.bind (g_M_stay F (X.2 ((l3 + (nI 1))).toNatClampNeg) r65.2) (fun r66 => (if r65.1 = r66.1 then (k18 (l3 + (nI 6)) r66.2 E) else (some ((nI 0), r66.2, E))))))))) else (if ((X.2 (l3).toNatClampNeg) &&& (nI 63)) = (nI 35) then (rk X.1 (l3 + (nI 1)) (rk X.1 (l3 + (nI 2)) (Option.bind (g_X_stilts F (X.2 ((l3 + (nI 1))).toNatClampNeg) (X.2 ((l3 + (nI 2))).toNatClampNeg) D) (fun r67 => (rk X.1 (l3 + (nI 1)) (rk X.1 (l3 + (nI 2)) (Option.bind (g_M_stilts F (X.2 ((l3 + (nI 1))).toNatClampNeg) (X.2 ((l3 + (nI 2))).toNatClampNeg) r67.2) (fun r68 => (if r67.1 = r68.1 then (k18 (l3 + (nI 6)) r68.2 E) else (some ((nI 0), r68.2, E))))))))))) else (if ((X.2 (l3).toNatClampNeg) &&& (nI 63)) = (nI 36) then (rk X.1 (l3 + (nI 1)) (rk X.1 (l3 + (nI 2)) (Option.bind (g_X_lengths F (X.2 ((l3 + (nI 1))).toNatClampNeg) (X.2 ((l3 + (nI 2))).toNatClampNeg) D) (fun r69 => (rk X.1 (l3 + (nI 1)) (rk X.1 (l3 + (nI 2)) (Option.bind (g_M_lengths F (X.2 ((l3 + (nI 1))).toNatClampNeg) (X.2 ((l3 + (nI 2))).toNatClampNeg) r69.2) (fun r70 => (if r69.1 = r70.1 then (k18 (l3 + (nI 6)) r70.2 E) else (some ((nI 0), r70.2, E))))))))))) else (if ((X.2 (l3).toNatClampNeg) &&& (nI 63)) = (nI 37) then (rk X.1 (l3 + (nI 1)) (rk X.1 (l3 + (nI 2)) (rk X.1 (l3 + (nI 3)) (Option.bind (g_X_hump F D (X.2 ((l3 + (nI 1))).toNatClampNeg) (X.2 ((l3 + (nI 2))).toNatClampNeg) (X.2 ((l3 + (nI 3))).toNatClampNeg)) (fun r71 => (rk X.1 (l3 + (nI 1)) (rk X.1 (l3 + (nI 2)) (rk X.1 (l3 + (nI 3)) (Option.bind (g_M_hump F (X.2 ((l3 + (nI 1))).toNatClampNeg) (X.2 ((l3 + (nI 2))).toNatClampNeg) (X.2 ((l3 + (nI 3))).toNatClampNeg) D) (fun r72 => (if r71 = r72.1 then (k18 (l3 + (nI 6)) r72.2 E) else (some ((nI 0), r72.2, E))))))))))))) else (if ((X.2 (l3).toNatClampNeg) &&& (nI 63)) = (nI 38) then (rk X.1 (l3 + (nI 1)) (rk X.1 (l3 + (nI 2)) (Option.bind (g_X_seat F (X.2 ((l3 + (nI 1))).toNatClampNeg) (X.2 ((l3 + (nI 2))).toNatClampNeg) D) (fun r73 => (rk X.1 (l3 + (nI 1)) (rk X.1 (l3 + (nI 2)) (Option.bind (g_M_seat F (X.2 ((l3 + (nI 1))).toNatClampNeg) (X.2 ((l3 + (nI 2))).toNatClampNeg) r73.2) (fun r74 => (if r73.1 = r74.1 then (k18 (l3 + (nI 6)) r74.2 E) else (some ((nI 0), r74.2, E))))))))))) else (if ((X.2 (l3).toNatClampNeg) &&& (nI 63)) = (nI 39) then (rk X.1 (l3 + (nI 1)) (rk X.1 (l3 + (nI 2)) (rk X.1 (l3 + (nI 3)) (Option.bind (g_X_sits F (X.2 ((l3 + (nI 1))).toNatClampNeg) (X.2 ((l3 + (nI 2))).toNatClampNeg) (X.2 ((l3 + (nI 3))).toNatClampNeg) D) (fun r75 => (rk X.1 (l3 + (nI 1)) (rk X.1 (l3 + (nI 2)) (rk X.1 (l3 + (nI 3)) (Option.bind (g_M_sits2 F (X.2 ((l3 + (nI 1))).toNatClampNeg) (X.2 ((l3 + (nI 2))).toNatClampNeg) (X.2 ((l3 + (nI 3))).toNatClampNeg) r75.2) (fun r76 => (if r75.1 = r76.1 then (k18 (l3 + (nI 6)) r76.2 E) else (some ((nI 0), r76.2, E))))))))))))) else (if ((X.2 (l3).toNatClampNeg) &&& (nI 63)) = (nI 40) then (rk X.1 (l3 + (nI 1)) (rk X.1 (l3 + (nI 2)) (Option.bind (g_X_change (X.2 ((l3 + (nI 1))).toNatClampNeg) (X.2 ((l3 + (nI 2))).toNatClampNeg) D) (fun r77 => (rk X.1 (l3 + (nI 1)) (rk X.1 (l3 + (nI 2)) (Option.bind (g_M_change (X.2 ((l3 + (nI 1))).toNatClampNeg) (X.2 ((l3 + (nI 2))).toNatClampNeg) r77.2) (fun r78 => (if r77.1 = r78.1 then (k18 (l3 + (nI 6)) r78.2 E) else (some ((nI 0), r78.2, E))))))))))) else (if ((X.2 (l3).toNatClampNeg) &&& (nI 63)) = (nI 41) then (rk X.1 (l3 + (nI 1)) (Option.bind (g_X_pair F (X.2 ((l3 + (nI 1))).toNatClampNeg) D) (fun r79 => (rk X.1 (l3 + (nI 1)) (Option.bind (g_M_pair F (X.2 ((l3 + (nI 1))).toNatClampNeg) r79.2) (fun r80 => (if r79.1 = r80.1 then (k18 (l3 + (nI 6)) r80.2 E) else (some ((nI 0), r80.2, E))))))))) else (if ((X.2 (l3).toNatClampNeg) &&& (nI 63)) = (nI 42) then (rk X.1 (l3 + (nI 1)) (rk X.1 (l3 + (nI 2)) (Option.bind (g_X_wears F (X.2 ((l3 + (nI 1))).toNatClampNeg) (X.2 ((l3 + (nI 2))).toNatClampNeg) D) (fun r81 => (rk X.1 (l3 + (nI 1)) (rk X.1 (l3 + (nI 2)) (Option.bind (g_M_wears F (X.2 ((l3 + (nI 1))).toNatClampNeg) (X.2 ((l3 + (nI 2))).toNatClampNeg) r81.2) (fun r82 => (if r81.1 = r82.1 then (k18 (l3 + (nI 6)) r82.2 E) else (some ((nI 0), r82.2, E))))))))))) else (if ((X.2 (l3).toNatClampNeg) &&& (nI 63)) = (nI 43) then (rk X.1 (l3 + (nI 1)) (rk X.1 (l3 + (nI 2)) (Option.bind (g_X_stands (X.2 ((l3 + (nI 1))).toNatClampNeg) (X.2 ((l3 + (nI 2))).toNatClampNeg) D) (fun r83 => (rk X.1 (l3 + (nI 1)) (rk X.1 (l3 + (nI 2)) (Option.bind (g_M_stands (X.2 ((l3 + (nI 1))).toNatClampNeg) (X.2 ((l3 + (nI 2))).toNatClampNeg) r83.2) (fun r84 => (if r83.1 = r84.1 then (k18 (l3 + (nI 6)) r84.2 E) else (some ((nI 0), r84.2, E))))))))))) else (if ((X.2 (l3).toNatClampNeg) &&& (nI 63)) = (nI 44) then (rk X.1 (l3 + (nI 1)) (rk X.1 (l3 + (nI 2)) (rk X.1 (l3 + (nI 3)) (Option.bind (g_X_trench (X.2 ((l3 + (nI 1))).toNatClampNeg) (X.2 ((l3 + (nI 2))).toNatClampNeg) (X.2 ((l3 + (nI 3))).toNatClampNeg) D) (fun r85 => (rk X.1 (l3 + (nI 1)) (rk X.1 (l3 + (nI 2)) (rk X.1 (l3 + (nI 3)) (Option.bind (g_M_trench (X.2 ((l3 + (nI 1))).toNatClampNeg) (X.2 ((l3 + (nI 2))).toNatClampNeg) (X.2 ((l3 + (nI 3))).toNatClampNeg) r85.2) (fun r86 => (if r85.1 = r86.1 then (k18 (l3 + (nI 6)) r86.2 E) else (some ((nI 0), r86.2, E))))))))))))) else (if ((X.2 (l3).toNatClampNeg) &&& (nI 63)) = (nI 45) then (rk X.1 (l3 + (nI 1)) (rk X.1 (l3 + (nI 2)) (Option.bind (g_X_digs F (X.2 ((l3 + (nI 1))).toNatClampNeg) (X.2 ((l3 + (nI 2))).toNatClampNeg) D) (fun r87 => (rk X.1 (l3 + (nI 1)) (rk X.1 (l3 + (nI 2)) (Option.bind (g_M_digs F (X.2 ((l3 + (nI 1))).toNatClampNeg) (X.2 ((l3 + (nI 2))).toNatClampNeg) r87.2) (fun r88 => (if r87.1 = r88.1 then (k18 (l3 + (nI 6)) r88.2 E) else (some ((nI 0), r88.2, E))))))))))) else (if ((X.2 (l3).toNatClampNeg) &&& (nI 63)) = (nI 46) then (rk X.1 (l3 + (nI 1)) (rk X.1 (l3 + (nI 1)) (if (g_X_law (X.2 ((l3 + (nI 1))).toNatClampNeg) D).1 = (g_M_law (X.2 ((l3 + (nI 1))).toNatClampNeg) (g_X_law (X.2 ((l3 + (nI 1))).toNatClampNeg) D).2).1 then (k18 (l3 + (nI 6)) (g_M_law (X.2 ((l3 + (nI 1))).toNatClampNeg) (g_X_law (X.2 ((l3 + (nI 1))).toNatClampNeg) D).2).2 E) else (some ((nI 0), (g_M_law (X.2 ((l3 + (nI 1))).toNatClampNeg) (g_X_law (X.2 ((l3 + (nI 1))).toNatClampNeg) D).2).2, E))))) else (if ((X.2 (l3).toNatClampNeg) &&& (nI 63)) = (nI 47) then (rk X.1 (l3 + (nI 1)) (rk X.1 (l3 + (nI 2)) (Option.bind (g_X_least F (X.2 ((l3 + (nI 1))).toNatClampNeg) (X.2 ((l3 + (nI 2))).toNatClampNeg) D) (fun r89 => (rk X.1 (l3 + (nI 1)) (rk X.1 (l3 + (nI 2)) (Option.bind (g_M_least F (X.2 ((l3 + (nI 1))).toNatClampNeg) (X.2 ((l3 + (nI 2))).toNatClampNeg) r89.2) (fun r90 => (if r89.1 = r90.1 then (k18 (l3 + (nI 6)) r90.2 E) else (some ((nI 0), r90.2, E))))))))))) else (if ((X.2 (l3).toNatClampNeg) &&& (nI 63)) = (nI 48) then (rk X.1 (l3 + (nI 1)) (rk X.1 (l3 + (nI 2)) (Option.bind (g_X_seen F E (X.2 ((l3 + (nI 1))).toNatClampNeg) (X.2 ((l3 + (nI 2))).toNatClampNeg) D) (fun r91 => (rk X.1 (l3 + (nI 1)) (rk X.1 (l3 + (nI 2)) (Option.bind (g_M_seen F E (X.2 ((l3 + (nI 1))).toNatClampNeg) (X.2 ((l3 + (nI 2))).toNatClampNeg) r91.2) (fun r92 => (if r91.1 = r92.1 then (k18 (l3 + (nI 6)) r92.2 E) else (some ((nI 0), r92.2, E))))))))))) else (if ((X.2 (l3).toNatClampNeg) &&& (nI 63)) = (nI 49) then (rk X.1 (l3 + (nI 1)) (rk X.1 (l3 + (nI 2)) (rk X.1 (l3 + (nI 3)) (Option.bind (g_X_sure F E (X.2 ((l3 + (nI 1))).toNatClampNeg) (X.2 ((l3 + (nI 2))).toNatClampNeg) (X.2 ((l3 + (nI 3))).toNatClampNeg) D) (fun r93 => (rk X.1 (l3 + (nI 1)) (rk X.1 (l3 + (nI 2)) (rk X.1 (l3 + (nI 3)) (Option.bind (g_M_sure F E (X.2 ((l3 + (nI 1))).toNatClampNeg) (X.2 ((l3 + (nI 2))).toNatClampNeg) (X.2 ((l3 + (nI 3))).toNatClampNeg) r93.2) (fun r94 => (if r93.1 = r94.1 then (k18 (l3 + (nI 6)) r94.2 E) else (some ((nI 0), r94.2, E))))))))))))) else (if ((X.2 (l3).toNatClampNeg) &&& (nI 63)) = (nI 50) then (rk X.1 (l3 + (nI 1)) (rk X.1 (l3 + (nI 2)) (Option.bind (g_X_odd F E (X.2 ((l3 + (nI 1))).toNatClampNeg) (X.2 ((l3 + (nI 2))).toNatClampNeg) D) (fun r95 => (rk X.1 (l3 + (nI 1)) (rk X.1 (l3 + (nI 2)) (Option.bind (g_M_odd F r95.2 E (X.2 ((l3 + (nI 1))).toNatClampNeg) (X.2 ((l3 + (nI 2))).toNatClampNeg)) (fun r96 => (if r95.1 = r96 then (k18 (l3 + (nI 6)) r95.2 E) else (some ((nI 0), r95.2, E))))))))))) else (if ((X.2 (l3).toNatClampNeg) &&& (nI 63)) = (nI 51) then (rk X.1 (l3 + (nI 1)) (Option.bind (g_X_drawn F (X.2 ((l3 + (nI 1))).toNatClampNeg) D) (fun r97 => (rk X.1 (l3 + (nI 1)) (Option.bind (g_M_drawn F (X.2 ((l3 + (nI 1))).toNatClampNeg) r97.2 E) (fun r98 => (if r97.1 = r98.1 then (k18 (l3 + (nI 6)) r98.2.1 r98.2.2) else (some ((nI 0), r98.2.1, r98.2.2))))))))) else (if ((X.2 (l3).toNatClampNeg) &&& (nI 63)) = (nI 52) then (rk X.1 (l3 + (nI 1)) (rk X.1 (l3 + (nI 2)) (rk X.1 (l3 + (nI 3)) (Option.bind (g_X_grown F (X.2 ((l3 + (nI 1))).toNatClampNeg) (X.2 ((l3 + (nI 2))).toNatClampNeg) (X.2 ((l3 + (nI 3))).toNatClampNeg) D) (fun r99 => (rk X.1 (l3 + (nI 1)) (rk X.1 (l3 + (nI 2)) (rk X.1 (l3 + (nI 3)) (Option.bind (g_M_grown F (X.2 ((l3 + (nI 1))).toNatClampNeg) (X.2 ((l3 + (nI 2))).toNatClampNeg) (X.2 ((l3 + (nI 3))).toNatClampNeg) r99.2 E) (fun r100 => (if r99.1 = r100.1 then (k18 (l3 + (nI 6)) r100.2.1 r100.2.2) else (some ((nI 0), r100.2.1, r100.2.2))))))))))))) else (if ((X.2 (l3).toNatClampNeg) &&& (nI 63)) = (nI 53) then (rk X.1 (l3 + (nI 1)) (rk X.1 (l3 + (nI 2)) (rk X.1 (l3 + (nI 3)) (Option.bind (g_X_years F (X.2 ((l3 + (nI 1))).toNatClampNeg) (X.2 ((l3 + (nI 2))).toNatClampNeg) (X.2 ((l3 + (nI 3))).toNatClampNeg) D) (fun r101 => (rk X.1 (l3 + (nI 1)) (rk X.1 (l3 + (nI 2)) (rk X.1 (l3 + (nI 3)) (Option.bind (g_M_years F (X.2 ((l3 + (nI 1))).toNatClampNeg) (X.2 ((l3 + (nI 2))).toNatClampNeg) (X.2 ((l3 + (nI 3))).toNatClampNeg) r101.2 E) (fun r102 => (if r101.1 = r102.1 then (k18 (l3 + (nI 6)) r102.2.1 r102.2.2) else (some ((nI 0), r102.2.1, r102.2.2))))))))))))) else (if ((X.2 (l3).toNatClampNeg) &&& (nI 63)) = (nI 54) then (rk X.1 (l3 + (nI 1)) (Option.bind (g_X_count F D (X.2 ((l3 + (nI 1))).toNatClampNeg)) (fun r103 => (rk X.1 (l3 + (nI 1)) (Option.bind (g_M_count F D (X.2 ((l3 + (nI 1))).toNatClampNeg)) (fun r104 => (if r103 = r104 then (k18 (l3 + (nI 6)) D E) else (some ((nI 0), D, E))))))))) else (if ((X.2 (l3).toNatClampNeg) &&& (nI 63)) = (nI 55) then (rk X.1 (l3 + (nI 1)) (Option.bind (g_X_image (X.2 ((l3 + (nI 1))).toNatClampNeg) D) (fun r105 => (rk X.1 (l3 + (nI 1)) (Option.bind (g_M_image F (X.2 ((l3 + (nI 1))).toNatClampNeg) r105.2) (fun r106 => (if r105.1 = r106.1 then (k18 (l3 + (nI 6)) r106.2 E) else (some ((nI 0), r106.2, E))))))))) else (if ((X.2 (l3).toNatClampNeg) &&& (nI 63)) = (nI 56) then (rk X.1 (l3 + (nI 1)) (Option.bind (g_X_back (X.2 ((l3 + (nI 1))).toNatClampNeg) D) (fun r107 => (rk X.1 (l3 + (nI 1)) (Option.bind (g_M_back F (X.2 ((l3 + (nI 1))).toNatClampNeg) r107.2) (fun r108 => (if r107.1 = r108.1 then (k18 (l3 + (nI 6)) r108.2 E) else (some ((nI 0), r108.2, E))))))))) else (if ((X.2 (l3).toNatClampNeg) &&& (nI 63)) = (nI 57) then (rk X.1 (l3 + (nI 1)) (rk X.1 (l3 + (nI 2)) (rk X.1 (l3 + (nI 3)) (Option.bind (g_X_row F (X.2 ((l3 + (nI 1))).toNatClampNeg) (X.2 ((l3 + (nI 2))).toNatClampNeg) (X.2 ((l3 + (nI 3))).toNatClampNeg) D E) (fun r109 => (rk X.1 (l3 + (nI 1)) (rk X.1 (l3 + (nI 2)) (rk X.1 (l3 + (nI 3)) (Option.bind (g_M_row F (X.2 ((l3 + (nI 1))).toNatClampNeg) (X.2 ((l3 + (nI 2))).toNatClampNeg) (X.2 ((l3 + (nI 3))).toNatClampNeg) r109.2.1 r109.2.2) (fun r110 => (if r109.1 = r110.1 then (k18 (l3 + (nI 6)) r110.2.1 r110.2.2) else (some ((nI 0), r110.2.1, r110.2.2))))))))))))) else (if ((X.2 (l3).toNatClampNeg) &&& (nI 63)) = (nI 58) then (rk X.1 (l3 + (nI 1)) (rk X.1 (l3 + (nI 2)) (rk X.1 (l3 + (nI 3)) (rk X.1 (l3 + (nI 4)) (Option.bind (g_X_write D (X.2 ((l3 + (nI 1))).toNatClampNeg) (X.2 ((l3 + (nI 2))).toNatClampNeg) (((((X.2 ((l3 + (nI 3))).toNatClampNeg)).toInt64) <<< (((nI 32)).toInt64 &&& 63)) ||| ((((X.2 ((l3 + (nI 4))).toNatClampNeg)).toInt64) &&& (4294967295 : Int64))) E) (fun r111 => (rk X.1 (l3 + (nI 1)) (rk X.1 (l3 + (nI 2)) (rk X.1 (l3 + (nI 3)) (rk X.1 (l3 + (nI 4)) (Option.bind (g_M_write D (X.2 ((l3 + (nI 1))).toNatClampNeg) (X.2 ((l3 + (nI 2))).toNatClampNeg) (((((X.2 ((l3 + (nI 3))).toNatClampNeg)).toInt64) <<< (((nI 32)).toInt64 &&& 63)) ||| ((((X.2 ((l3 + (nI 4))).toNatClampNeg)).toInt64) &&& (4294967295 : Int64))) r111.2) (fun r112 => (if r111.1 = r112.1 then (k18 (l3 + (nI 6)) D r112.2) else (some ((nI 0), D, r112.2))))))))))))))) else (if ((X.2 (l3).toNatClampNeg) &&& (nI 63)) = (nI 59) then (rk X.1 (l3 + (nI 1)) (rk X.1 (l3 + (nI 2)) (rk X.1 (l3 + (nI 3)) (rk X.1 (l3 + (nI 4)) (rk X.1 (l3 + (nI 5)) (Option.bind (g_X_paste D (X.2 ((l3 + (nI 1))).toNatClampNeg) (X.2 ((l3 + (nI 2))).toNatClampNeg) (X.2 ((l3 + (nI 3))).toNatClampNeg) (X.2 ((l3 + (nI 4))).toNatClampNeg) (X.2 ((l3 + (nI 5))).toNatClampNeg) E) (fun r113 => (rk X.1 (l3 + (nI 1)) (rk X.1 (l3 + (nI 2)) (rk X.1 (l3 + (nI 3)) (rk X.1 (l3 + (nI 4)) (rk X.1 (l3 + (nI 5)) (Option.bind (g_M_paste F D (X.2 ((l3 + (nI 1))).toNatClampNeg) (X.2 ((l3 + (nI 2))).toNatClampNeg) (X.2 ((l3 + (nI 3))).toNatClampNeg) (X.2 ((l3 + (nI 4))).toNatClampNeg) (X.2 ((l3 + (nI 5))).toNatClampNeg) r113.2) (fun r114 => (if r113.1 = r114.1 then (k18 (l3 + (nI 6)) D r114.2) else (some ((nI 0), D, r114.2))))))))))))))))) else (k18 (l3 + (nI 6)) D E)))))))))))))))))))))))))))))))))))))))))))))))))))))))))))))))
set_option maxRecDepth 100000 in
set_option maxHeartbeats 4000000 in
theorem tb_law_18 (X : ev_X) (F : Nat) (d : Nat) (hd : 105 ≤ d + 1) (k18 : Int32 → mx_D → mx_E → Option (Int32 × mx_D × mx_E)) (K18 : ∀ (l3 : Int32) (D : mx_D) (E : mx_E) (v : Int32 × mx_D × mx_E), k18 l3 D E = some v → ev X (d + 1) 337 (18, [some (.ref 2001), some (.ref 0), some (.ref 116), some (.int l3)], [], D, E) (qR (some (.int v.1)) v.2.1 v.2.2)) (l3 : Int32) (D : mx_D) (E : mx_E) (v : Int32 × mx_D × mx_E) (h : b_law_18 F X k18 l3 D E = some v) : ev X (d + 1) 337 (18, [some (.ref 2001), some (.ref 0), some (.ref 116), some (.int l3)], [], D, E) (qR (some (.int v.1)) v.2.1 v.2.2) := by
  have hq : kq_m 337 = some kq_q337 := rfl
  unfold b_law_18 at h
  refine gv_n hq 5 (S' := (24, [some (.ref 2001), some (.ref 0), some (.ref 116), some (.int l3)], [.int ((nI X.1) - (nI 6)), .int l3], D, E)) rfl ?_
  refine gv_b hq rfl h 2174 27 rfl rfl rfl (fun h => ?_) (fun h => ?_)
  · refine gv_n hq 1 (S' := (2175, [some (.ref 2001), some (.ref 0), some (.ref 116), some (.int l3)], [.int (nI 1)], D, E)) rfl ?_
    cases h
    exact ev_ret hq rfl rfl ⟨rfl, rfl, rfl⟩
  · refine gv_n hq 2 (S' := (29, [some (.ref 2001), some (.ref 0), some (.ref 116), some (.int l3)], [.int l3, .ref 2001], D, E)) rfl ?_
    refine gv_ix hq rfl rfl h 30 rfl (fun h => ?_)
    refine gv_n hq 2 (S' := (33, [some (.ref 2001), some (.ref 0), some (.ref 116), some (.int l3)], [.int ((X.2 (l3).toNatClampNeg) &&& (nI 63))], D, E)) rfl ?_
    refine gv_if h (fun c0 h => ?_) (fun c0 h => ?_)
    · refine ev_ins hq rfl (S' := (288, [some (.ref 2001), some (.ref 0), some (.ref 116), some (.int l3)], [], D, E)) (gv_sw (fun z => ((33, [some (.ref 2001), some (.ref 0), some (.ref 116), some (.int l3)], .int z :: [], D, E) : mx_S)) c0 rfl) ?_
      refine gv_n hq 5 (S' := (293, [some (.ref 2001), some (.ref 0), some (.ref 116), some (.int l3)], [.int (l3 + (nI 1)), .ref 2001, .ref 0], D, E)) rfl ?_
      refine gv_ix hq rfl rfl h 294 rfl (fun h => ?_)
      refine gv_n hq 4 (S' := (298, [some (.ref 2001), some (.ref 0), some (.ref 116), some (.int l3)], [.int (l3 + (nI 2)), .ref 2001, .int (X.2 ((l3 + (nI 1))).toNatClampNeg), .ref 0], D, E)) rfl ?_
      refine gv_ix hq rfl rfl h 299 rfl (fun h => ?_)
      refine gv_n hq 4 (S' := (303, [some (.ref 2001), some (.ref 0), some (.ref 116), some (.int l3)], [.int (l3 + (nI 3)), .ref 2001, .int (X.2 ((l3 + (nI 2))).toNatClampNeg), .int (X.2 ((l3 + (nI 1))).toNatClampNeg), .ref 0], D, E)) rfl ?_
      refine gv_ix hq rfl rfl h 304 rfl (fun h => ?_)
      refine gv_n hq 4 (S' := (308, [some (.ref 2001), some (.ref 0), some (.ref 116), some (.int l3)], [.int (l3 + (nI 4)), .ref 2001, .int (X.2 ((l3 + (nI 3))).toNatClampNeg), .int (X.2 ((l3 + (nI 2))).toNatClampNeg), .int (X.2 ((l3 + (nI 1))).toNatClampNeg), .ref 0], D, E)) rfl ?_
      refine gv_ix hq rfl rfl h 309 rfl (fun h => ?_)
      refine gv_n hq 4 (S' := (313, [some (.ref 2001), some (.ref 0), some (.ref 116), some (.int l3)], [.int (l3 + (nI 5)), .ref 2001, .int (X.2 ((l3 + (nI 4))).toNatClampNeg), .int (X.2 ((l3 + (nI 3))).toNatClampNeg), .int (X.2 ((l3 + (nI 2))).toNatClampNeg), .int (X.2 ((l3 + (nI 1))).toNatClampNeg), .ref 0], D, E)) rfl ?_
      refine gv_ix hq rfl rfl h 314 rfl (fun h => ?_)
      obtain ⟨r1, h1, h⟩ := Option.bind_eq_some_iff.mp h
      refine gv_d hq rfl rfl rfl rfl rfl (gv_dd (by omega) (t_X_feed X F (d - 1) (by omega) E _ _ _ _ _ _ _ h1)) (S' := (317, [some (.ref 2001), some (.ref 0), some (.ref 116), some (.int l3)], [.int r1.1], r1.2, E)) rfl ?_
      refine gv_n hq 5 (S' := (322, [some (.ref 2001), some (.ref 0), some (.ref 116), some (.int l3)], [.int (l3 + (nI 1)), .ref 2001, .ref 116, .int r1.1], r1.2, E)) rfl ?_
      refine gv_ix hq rfl rfl h 323 rfl (fun h => ?_)
      refine gv_n hq 4 (S' := (327, [some (.ref 2001), some (.ref 0), some (.ref 116), some (.int l3)], [.int (l3 + (nI 2)), .ref 2001, .int (X.2 ((l3 + (nI 1))).toNatClampNeg), .ref 116, .int r1.1], r1.2, E)) rfl ?_
      refine gv_ix hq rfl rfl h 328 rfl (fun h => ?_)
      refine gv_n hq 4 (S' := (332, [some (.ref 2001), some (.ref 0), some (.ref 116), some (.int l3)], [.int (l3 + (nI 3)), .ref 2001, .int (X.2 ((l3 + (nI 2))).toNatClampNeg), .int (X.2 ((l3 + (nI 1))).toNatClampNeg), .ref 116, .int r1.1], r1.2, E)) rfl ?_
      refine gv_ix hq rfl rfl h 333 rfl (fun h => ?_)
      refine gv_n hq 4 (S' := (337, [some (.ref 2001), some (.ref 0), some (.ref 116), some (.int l3)], [.int (l3 + (nI 4)), .ref 2001, .int (X.2 ((l3 + (nI 3))).toNatClampNeg), .int (X.2 ((l3 + (nI 2))).toNatClampNeg), .int (X.2 ((l3 + (nI 1))).toNatClampNeg), .ref 116, .int r1.1], r1.2, E)) rfl ?_
      refine gv_ix hq rfl rfl h 338 rfl (fun h => ?_)
      refine gv_n hq 4 (S' := (342, [some (.ref 2001), some (.ref 0), some (.ref 116), some (.int l3)], [.int (l3 + (nI 5)), .ref 2001, .int (X.2 ((l3 + (nI 4))).toNatClampNeg), .int (X.2 ((l3 + (nI 3))).toNatClampNeg), .int (X.2 ((l3 + (nI 2))).toNatClampNeg), .int (X.2 ((l3 + (nI 1))).toNatClampNeg), .ref 116, .int r1.1], r1.2, E)) rfl ?_
      refine gv_ix hq rfl rfl h 343 rfl (fun h => ?_)
      obtain ⟨r2, h1, h⟩ := Option.bind_eq_some_iff.mp h
      refine gv_d hq rfl rfl rfl rfl rfl ((t_M_feed X F d E _ _ _ _ _ _ _ h1)) (S' := (346, [some (.ref 2001), some (.ref 0), some (.ref 116), some (.int l3)], [.int r2.1, .int r1.1], r2.2, E)) rfl ?_
      refine gv_b hq rfl h 2168 349 rfl rfl rfl (fun h => ?_) (fun h => ?_)
      · refine gv_n hq 2 (S' := (18, [some (.ref 2001), some (.ref 0), some (.ref 116), some (.int (l3 + (nI 6)))], [], r2.2, E)) rfl ?_
        exact gv_w (K18 _ _ _ _ h) (And.intro rfl (And.intro rfl (And.intro rfl (And.intro rfl trivial))))
      · refine gv_n hq 1 (S' := (350, [some (.ref 2001), some (.ref 0), some (.ref 116), some (.int l3)], [.int (nI 0)], r2.2, E)) rfl ?_
        cases h
        exact ev_ret hq rfl rfl ⟨rfl, rfl, rfl⟩
    refine gv_if h (fun c1 h => ?_) (fun c1 h => ?_)
    · refine ev_ins hq rfl (S' := (351, [some (.ref 2001), some (.ref 0), some (.ref 116), some (.int l3)], [], D, E)) (gv_sw (fun z => ((33, [some (.ref 2001), some (.ref 0), some (.ref 116), some (.int l3)], .int z :: [], D, E) : mx_S)) c1 rfl) ?_
      refine gv_n hq 5 (S' := (356, [some (.ref 2001), some (.ref 0), some (.ref 116), some (.int l3)], [.int (l3 + (nI 1)), .ref 2001, .ref 0], D, E)) rfl ?_
      refine gv_ix hq rfl rfl h 357 rfl (fun h => ?_)
      refine gv_d hq rfl rfl rfl rfl rfl ((t_X_end X d E _ _ _ rfl)) (S' := (360, [some (.ref 2001), some (.ref 0), some (.ref 116), some (.int l3)], [.int (g_X_end (X.2 ((l3 + (nI 1))).toNatClampNeg) D).1], (g_X_end (X.2 ((l3 + (nI 1))).toNatClampNeg) D).2, E)) rfl ?_
      refine gv_n hq 5 (S' := (365, [some (.ref 2001), some (.ref 0), some (.ref 116), some (.int l3)], [.int (l3 + (nI 1)), .ref 2001, .ref 116, .int (g_X_end (X.2 ((l3 + (nI 1))).toNatClampNeg) D).1], (g_X_end (X.2 ((l3 + (nI 1))).toNatClampNeg) D).2, E)) rfl ?_
      refine gv_ix hq rfl rfl h 366 rfl (fun h => ?_)
      refine gv_d hq rfl rfl rfl rfl rfl (gv_dd (by omega) (t_M_end X (d - 1) (by omega) E _ _ _ rfl)) (S' := (369, [some (.ref 2001), some (.ref 0), some (.ref 116), some (.int l3)], [.int (g_M_end (X.2 ((l3 + (nI 1))).toNatClampNeg) (g_X_end (X.2 ((l3 + (nI 1))).toNatClampNeg) D).2).1, .int (g_X_end (X.2 ((l3 + (nI 1))).toNatClampNeg) D).1], (g_M_end (X.2 ((l3 + (nI 1))).toNatClampNeg) (g_X_end (X.2 ((l3 + (nI 1))).toNatClampNeg) D).2).2, E)) rfl ?_
      refine gv_b hq rfl h 2168 372 rfl rfl rfl (fun h => ?_) (fun h => ?_)
      · refine gv_n hq 2 (S' := (18, [some (.ref 2001), some (.ref 0), some (.ref 116), some (.int (l3 + (nI 6)))], [], (g_M_end (X.2 ((l3 + (nI 1))).toNatClampNeg) (g_X_end (X.2 ((l3 + (nI 1))).toNatClampNeg) D).2).2, E)) rfl ?_
        exact gv_w (K18 _ _ _ _ h) (And.intro rfl (And.intro rfl (And.intro rfl (And.intro rfl trivial))))
      · refine gv_n hq 1 (S' := (373, [some (.ref 2001), some (.ref 0), some (.ref 116), some (.int l3)], [.int (nI 0)], (g_M_end (X.2 ((l3 + (nI 1))).toNatClampNeg) (g_X_end (X.2 ((l3 + (nI 1))).toNatClampNeg) D).2).2, E)) rfl ?_
        cases h
        exact ev_ret hq rfl rfl ⟨rfl, rfl, rfl⟩
    refine gv_if h (fun c2 h => ?_) (fun c2 h => ?_)
    · refine ev_ins hq rfl (S' := (374, [some (.ref 2001), some (.ref 0), some (.ref 116), some (.int l3)], [], D, E)) (gv_sw (fun z => ((33, [some (.ref 2001), some (.ref 0), some (.ref 116), some (.int l3)], .int z :: [], D, E) : mx_S)) c2 rfl) ?_
      refine gv_n hq 1 (S' := (375, [some (.ref 2001), some (.ref 0), some (.ref 116), some (.int l3)], [.ref 0], D, E)) rfl ?_
      obtain ⟨r3, h1, h⟩ := Option.bind_eq_some_iff.mp h
      refine gv_d hq rfl rfl rfl rfl rfl (gv_dd (by omega) (t_X_church X F (d - 1) (by omega) E _ _ h1)) (S' := (378, [some (.ref 2001), some (.ref 0), some (.ref 116), some (.int l3)], [.int r3.1], r3.2, E)) rfl ?_
      refine gv_n hq 1 (S' := (379, [some (.ref 2001), some (.ref 0), some (.ref 116), some (.int l3)], [.ref 116, .int r3.1], r3.2, E)) rfl ?_
      obtain ⟨r4, h1, h⟩ := Option.bind_eq_some_iff.mp h
      refine gv_d hq rfl rfl rfl rfl rfl (gv_dd (by omega) (t_M_church X F (d - 1) (by omega) E _ _ h1)) (S' := (382, [some (.ref 2001), some (.ref 0), some (.ref 116), some (.int l3)], [.int r4.1, .int r3.1], r4.2, E)) rfl ?_
      refine gv_b hq rfl h 2168 385 rfl rfl rfl (fun h => ?_) (fun h => ?_)
      · refine gv_n hq 2 (S' := (18, [some (.ref 2001), some (.ref 0), some (.ref 116), some (.int (l3 + (nI 6)))], [], r4.2, E)) rfl ?_
        exact gv_w (K18 _ _ _ _ h) (And.intro rfl (And.intro rfl (And.intro rfl (And.intro rfl trivial))))
      · refine gv_n hq 1 (S' := (386, [some (.ref 2001), some (.ref 0), some (.ref 116), some (.int l3)], [.int (nI 0)], r4.2, E)) rfl ?_
        cases h
        exact ev_ret hq rfl rfl ⟨rfl, rfl, rfl⟩
    refine gv_if h (fun c3 h => ?_) (fun c3 h => ?_)
    · refine ev_ins hq rfl (S' := (387, [some (.ref 2001), some (.ref 0), some (.ref 116), some (.int l3)], [], D, E)) (gv_sw (fun z => ((33, [some (.ref 2001), some (.ref 0), some (.ref 116), some (.int l3)], .int z :: [], D, E) : mx_S)) c3 rfl) ?_
      refine gv_n hq 5 (S' := (392, [some (.ref 2001), some (.ref 0), some (.ref 116), some (.int l3)], [.int (l3 + (nI 1)), .ref 2001, .ref 0], D, E)) rfl ?_
      refine gv_ix hq rfl rfl h 393 rfl (fun h => ?_)
      refine gv_d hq rfl rfl rfl rfl rfl ((t_X_fault X d D E _ _ rfl)) (S' := (396, [some (.ref 2001), some (.ref 0), some (.ref 116), some (.int l3)], [.int (g_X_fault D (X.2 ((l3 + (nI 1))).toNatClampNeg))], D, E)) rfl ?_
      refine gv_n hq 5 (S' := (401, [some (.ref 2001), some (.ref 0), some (.ref 116), some (.int l3)], [.int (l3 + (nI 1)), .ref 2001, .ref 116, .int (g_X_fault D (X.2 ((l3 + (nI 1))).toNatClampNeg))], D, E)) rfl ?_
      refine gv_ix hq rfl rfl h 402 rfl (fun h => ?_)
      refine gv_d hq rfl rfl rfl rfl rfl ((t_M_fault X d D E _ _ rfl)) (S' := (405, [some (.ref 2001), some (.ref 0), some (.ref 116), some (.int l3)], [.int (g_M_fault D (X.2 ((l3 + (nI 1))).toNatClampNeg)), .int (g_X_fault D (X.2 ((l3 + (nI 1))).toNatClampNeg))], D, E)) rfl ?_
      refine gv_b hq rfl h 2168 408 rfl rfl rfl (fun h => ?_) (fun h => ?_)
      · refine gv_n hq 2 (S' := (18, [some (.ref 2001), some (.ref 0), some (.ref 116), some (.int (l3 + (nI 6)))], [], D, E)) rfl ?_
        exact gv_w (K18 _ _ _ _ h) (And.intro rfl (And.intro rfl (And.intro rfl (And.intro rfl trivial))))
      · refine gv_n hq 1 (S' := (409, [some (.ref 2001), some (.ref 0), some (.ref 116), some (.int l3)], [.int (nI 0)], D, E)) rfl ?_
        cases h
        exact ev_ret hq rfl rfl ⟨rfl, rfl, rfl⟩
    refine gv_if h (fun c4 h => ?_) (fun c4 h => ?_)
    · refine ev_ins hq rfl (S' := (410, [some (.ref 2001), some (.ref 0), some (.ref 116), some (.int l3)], [], D, E)) (gv_sw (fun z => ((33, [some (.ref 2001), some (.ref 0), some (.ref 116), some (.int l3)], .int z :: [], D, E) : mx_S)) c4 rfl) ?_
      refine gv_n hq 5 (S' := (415, [some (.ref 2001), some (.ref 0), some (.ref 116), some (.int l3)], [.int (l3 + (nI 1)), .ref 2001, .ref 0], D, E)) rfl ?_
      refine gv_ix hq rfl rfl h 416 rfl (fun h => ?_)
      refine gv_n hq 4 (S' := (420, [some (.ref 2001), some (.ref 0), some (.ref 116), some (.int l3)], [.int (l3 + (nI 2)), .ref 2001, .int (X.2 ((l3 + (nI 1))).toNatClampNeg), .ref 0], D, E)) rfl ?_
      refine gv_ix hq rfl rfl h 421 rfl (fun h => ?_)
      obtain ⟨r5, h1, h⟩ := Option.bind_eq_some_iff.mp h
      refine gv_d hq rfl rfl rfl rfl rfl (gv_dd (by omega) (t_X_pew X F (d - 1) (by omega) D E _ _ _ h1)) (S' := (424, [some (.ref 2001), some (.ref 0), some (.ref 116), some (.int l3)], [.int r5], D, E)) rfl ?_
      refine gv_n hq 5 (S' := (429, [some (.ref 2001), some (.ref 0), some (.ref 116), some (.int l3)], [.int (l3 + (nI 1)), .ref 2001, .ref 116, .int r5], D, E)) rfl ?_
      refine gv_ix hq rfl rfl h 430 rfl (fun h => ?_)
      refine gv_n hq 4 (S' := (434, [some (.ref 2001), some (.ref 0), some (.ref 116), some (.int l3)], [.int (l3 + (nI 2)), .ref 2001, .int (X.2 ((l3 + (nI 1))).toNatClampNeg), .ref 116, .int r5], D, E)) rfl ?_
      refine gv_ix hq rfl rfl h 435 rfl (fun h => ?_)
      obtain ⟨r6, h1, h⟩ := Option.bind_eq_some_iff.mp h
      refine gv_d hq rfl rfl rfl rfl rfl (gv_dd (by omega) (t_M_pew X F (d - 1) (by omega) D E _ _ _ h1)) (S' := (438, [some (.ref 2001), some (.ref 0), some (.ref 116), some (.int l3)], [.int r6, .int r5], D, E)) rfl ?_
      refine gv_b hq rfl h 2168 441 rfl rfl rfl (fun h => ?_) (fun h => ?_)
      · refine gv_n hq 2 (S' := (18, [some (.ref 2001), some (.ref 0), some (.ref 116), some (.int (l3 + (nI 6)))], [], D, E)) rfl ?_
        exact gv_w (K18 _ _ _ _ h) (And.intro rfl (And.intro rfl (And.intro rfl (And.intro rfl trivial))))
      · refine gv_n hq 1 (S' := (442, [some (.ref 2001), some (.ref 0), some (.ref 116), some (.int l3)], [.int (nI 0)], D, E)) rfl ?_
        cases h
        exact ev_ret hq rfl rfl ⟨rfl, rfl, rfl⟩
    refine gv_if h (fun c5 h => ?_) (fun c5 h => ?_)
    · refine ev_ins hq rfl (S' := (443, [some (.ref 2001), some (.ref 0), some (.ref 116), some (.int l3)], [], D, E)) (gv_sw (fun z => ((33, [some (.ref 2001), some (.ref 0), some (.ref 116), some (.int l3)], .int z :: [], D, E) : mx_S)) c5 rfl) ?_
      refine gv_n hq 5 (S' := (448, [some (.ref 2001), some (.ref 0), some (.ref 116), some (.int l3)], [.int (l3 + (nI 1)), .ref 2001, .ref 0], D, E)) rfl ?_
      refine gv_ix hq rfl rfl h 449 rfl (fun h => ?_)
      refine gv_n hq 4 (S' := (453, [some (.ref 2001), some (.ref 0), some (.ref 116), some (.int l3)], [.int (l3 + (nI 2)), .ref 2001, .int (X.2 ((l3 + (nI 1))).toNatClampNeg), .ref 0], D, E)) rfl ?_
      refine gv_ix hq rfl rfl h 454 rfl (fun h => ?_)
      obtain ⟨r7, h1, h⟩ := Option.bind_eq_some_iff.mp h
      refine gv_d hq rfl rfl rfl rfl rfl (gv_dd (by omega) (t_X_floor X (d - 1) (by omega) D E _ _ _ h1)) (S' := (457, [some (.ref 2001), some (.ref 0), some (.ref 116), some (.int l3)], [.int r7], D, E)) rfl ?_
      refine gv_n hq 5 (S' := (462, [some (.ref 2001), some (.ref 0), some (.ref 116), some (.int l3)], [.int (l3 + (nI 1)), .ref 2001, .ref 116, .int r7], D, E)) rfl ?_
      refine gv_ix hq rfl rfl h 463 rfl (fun h => ?_)
      refine gv_n hq 4 (S' := (467, [some (.ref 2001), some (.ref 0), some (.ref 116), some (.int l3)], [.int (l3 + (nI 2)), .ref 2001, .int (X.2 ((l3 + (nI 1))).toNatClampNeg), .ref 116, .int r7], D, E)) rfl ?_
      refine gv_ix hq rfl rfl h 468 rfl (fun h => ?_)
      obtain ⟨r8, h1, h⟩ := Option.bind_eq_some_iff.mp h
      refine gv_d hq rfl rfl rfl rfl rfl (gv_dd (by omega) (t_M_floor X (d - 1) (by omega) D E _ _ _ h1)) (S' := (471, [some (.ref 2001), some (.ref 0), some (.ref 116), some (.int l3)], [.int r8, .int r7], D, E)) rfl ?_
      refine gv_b hq rfl h 2168 474 rfl rfl rfl (fun h => ?_) (fun h => ?_)
      · refine gv_n hq 2 (S' := (18, [some (.ref 2001), some (.ref 0), some (.ref 116), some (.int (l3 + (nI 6)))], [], D, E)) rfl ?_
        exact gv_w (K18 _ _ _ _ h) (And.intro rfl (And.intro rfl (And.intro rfl (And.intro rfl trivial))))
      · refine gv_n hq 1 (S' := (475, [some (.ref 2001), some (.ref 0), some (.ref 116), some (.int l3)], [.int (nI 0)], D, E)) rfl ?_
        cases h
        exact ev_ret hq rfl rfl ⟨rfl, rfl, rfl⟩
    refine gv_if h (fun c6 h => ?_) (fun c6 h => ?_)
    · refine ev_ins hq rfl (S' := (476, [some (.ref 2001), some (.ref 0), some (.ref 116), some (.int l3)], [], D, E)) (gv_sw (fun z => ((33, [some (.ref 2001), some (.ref 0), some (.ref 116), some (.int l3)], .int z :: [], D, E) : mx_S)) c6 rfl) ?_
      refine gv_n hq 5 (S' := (481, [some (.ref 2001), some (.ref 0), some (.ref 116), some (.int l3)], [.int (l3 + (nI 1)), .ref 2001, .ref 0], D, E)) rfl ?_
      refine gv_ix hq rfl rfl h 482 rfl (fun h => ?_)
      refine gv_n hq 4 (S' := (486, [some (.ref 2001), some (.ref 0), some (.ref 116), some (.int l3)], [.int (l3 + (nI 2)), .ref 2001, .int (X.2 ((l3 + (nI 1))).toNatClampNeg), .ref 0], D, E)) rfl ?_
      refine gv_ix hq rfl rfl h 487 rfl (fun h => ?_)
      obtain ⟨r9, h1, h⟩ := Option.bind_eq_some_iff.mp h
      refine gv_d hq rfl rfl rfl rfl rfl (gv_dd (by omega) (t_X_who X F (d - 1) (by omega) D E _ _ _ h1)) (S' := (490, [some (.ref 2001), some (.ref 0), some (.ref 116), some (.int l3)], [.int r9], D, E)) rfl ?_
      refine gv_n hq 5 (S' := (495, [some (.ref 2001), some (.ref 0), some (.ref 116), some (.int l3)], [.int (l3 + (nI 1)), .ref 2001, .ref 116, .int r9], D, E)) rfl ?_
      refine gv_ix hq rfl rfl h 496 rfl (fun h => ?_)
      refine gv_n hq 4 (S' := (500, [some (.ref 2001), some (.ref 0), some (.ref 116), some (.int l3)], [.int (l3 + (nI 2)), .ref 2001, .int (X.2 ((l3 + (nI 1))).toNatClampNeg), .ref 116, .int r9], D, E)) rfl ?_
      refine gv_ix hq rfl rfl h 501 rfl (fun h => ?_)
      obtain ⟨r10, h1, h⟩ := Option.bind_eq_some_iff.mp h
      refine gv_d hq rfl rfl rfl rfl rfl (gv_dd (by omega) (t_M_who X F (d - 1) (by omega) D E _ _ _ h1)) (S' := (504, [some (.ref 2001), some (.ref 0), some (.ref 116), some (.int l3)], [.int r10, .int r9], D, E)) rfl ?_
      refine gv_b hq rfl h 2168 507 rfl rfl rfl (fun h => ?_) (fun h => ?_)
      · refine gv_n hq 2 (S' := (18, [some (.ref 2001), some (.ref 0), some (.ref 116), some (.int (l3 + (nI 6)))], [], D, E)) rfl ?_
        exact gv_w (K18 _ _ _ _ h) (And.intro rfl (And.intro rfl (And.intro rfl (And.intro rfl trivial))))
      · refine gv_n hq 1 (S' := (508, [some (.ref 2001), some (.ref 0), some (.ref 116), some (.int l3)], [.int (nI 0)], D, E)) rfl ?_
        cases h
        exact ev_ret hq rfl rfl ⟨rfl, rfl, rfl⟩
    refine gv_if h (fun c7 h => ?_) (fun c7 h => ?_)
    · refine ev_ins hq rfl (S' := (509, [some (.ref 2001), some (.ref 0), some (.ref 116), some (.int l3)], [], D, E)) (gv_sw (fun z => ((33, [some (.ref 2001), some (.ref 0), some (.ref 116), some (.int l3)], .int z :: [], D, E) : mx_S)) c7 rfl) ?_
      refine gv_n hq 5 (S' := (514, [some (.ref 2001), some (.ref 0), some (.ref 116), some (.int l3)], [.int (l3 + (nI 1)), .ref 2001, .ref 0], D, E)) rfl ?_
      refine gv_ix hq rfl rfl h 515 rfl (fun h => ?_)
      refine gv_n hq 4 (S' := (519, [some (.ref 2001), some (.ref 0), some (.ref 116), some (.int l3)], [.int (l3 + (nI 2)), .ref 2001, .int (X.2 ((l3 + (nI 1))).toNatClampNeg), .ref 0], D, E)) rfl ?_
      refine gv_ix hq rfl rfl h 520 rfl (fun h => ?_)
      obtain ⟨r11, h1, h⟩ := Option.bind_eq_some_iff.mp h
      refine gv_d hq rfl rfl rfl rfl rfl (gv_dd (by omega) (t_X_person X F (d - 1) (by omega) D E _ _ _ h1)) (S' := (523, [some (.ref 2001), some (.ref 0), some (.ref 116), some (.int l3)], [.int r11], D, E)) rfl ?_
      refine gv_n hq 5 (S' := (528, [some (.ref 2001), some (.ref 0), some (.ref 116), some (.int l3)], [.int (l3 + (nI 1)), .ref 2001, .ref 116, .int r11], D, E)) rfl ?_
      refine gv_ix hq rfl rfl h 529 rfl (fun h => ?_)
      refine gv_n hq 4 (S' := (533, [some (.ref 2001), some (.ref 0), some (.ref 116), some (.int l3)], [.int (l3 + (nI 2)), .ref 2001, .int (X.2 ((l3 + (nI 1))).toNatClampNeg), .ref 116, .int r11], D, E)) rfl ?_
      refine gv_ix hq rfl rfl h 534 rfl (fun h => ?_)
      obtain ⟨r12, h1, h⟩ := Option.bind_eq_some_iff.mp h
      refine gv_d hq rfl rfl rfl rfl rfl (gv_dd (by omega) (t_M_person X F (d - 1) (by omega) D E _ _ _ h1)) (S' := (537, [some (.ref 2001), some (.ref 0), some (.ref 116), some (.int l3)], [.int r12, .int r11], D, E)) rfl ?_
      refine gv_b hq rfl h 2168 540 rfl rfl rfl (fun h => ?_) (fun h => ?_)
      · refine gv_n hq 2 (S' := (18, [some (.ref 2001), some (.ref 0), some (.ref 116), some (.int (l3 + (nI 6)))], [], D, E)) rfl ?_
        exact gv_w (K18 _ _ _ _ h) (And.intro rfl (And.intro rfl (And.intro rfl (And.intro rfl trivial))))
      · refine gv_n hq 1 (S' := (541, [some (.ref 2001), some (.ref 0), some (.ref 116), some (.int l3)], [.int (nI 0)], D, E)) rfl ?_
        cases h
        exact ev_ret hq rfl rfl ⟨rfl, rfl, rfl⟩
    refine gv_if h (fun c8 h => ?_) (fun c8 h => ?_)
    · refine ev_ins hq rfl (S' := (542, [some (.ref 2001), some (.ref 0), some (.ref 116), some (.int l3)], [], D, E)) (gv_sw (fun z => ((33, [some (.ref 2001), some (.ref 0), some (.ref 116), some (.int l3)], .int z :: [], D, E) : mx_S)) c8 rfl) ?_
      refine gv_n hq 5 (S' := (547, [some (.ref 2001), some (.ref 0), some (.ref 116), some (.int l3)], [.int (l3 + (nI 1)), .ref 2001, .ref 0], D, E)) rfl ?_
      refine gv_ix hq rfl rfl h 548 rfl (fun h => ?_)
      refine gv_n hq 4 (S' := (552, [some (.ref 2001), some (.ref 0), some (.ref 116), some (.int l3)], [.int (l3 + (nI 2)), .ref 2001, .int (X.2 ((l3 + (nI 1))).toNatClampNeg), .ref 0], D, E)) rfl ?_
      refine gv_ix hq rfl rfl h 553 rfl (fun h => ?_)
      obtain ⟨r13, h1, h⟩ := Option.bind_eq_some_iff.mp h
      refine gv_d hq rfl rfl rfl rfl rfl (gv_dd (by omega) (t_X_thing X (d - 1) (by omega) D E _ _ _ h1)) (S' := (556, [some (.ref 2001), some (.ref 0), some (.ref 116), some (.int l3)], [.int r13], D, E)) rfl ?_
      refine gv_n hq 5 (S' := (561, [some (.ref 2001), some (.ref 0), some (.ref 116), some (.int l3)], [.int (l3 + (nI 1)), .ref 2001, .ref 116, .int r13], D, E)) rfl ?_
      refine gv_ix hq rfl rfl h 562 rfl (fun h => ?_)
      refine gv_n hq 4 (S' := (566, [some (.ref 2001), some (.ref 0), some (.ref 116), some (.int l3)], [.int (l3 + (nI 2)), .ref 2001, .int (X.2 ((l3 + (nI 1))).toNatClampNeg), .ref 116, .int r13], D, E)) rfl ?_
      refine gv_ix hq rfl rfl h 567 rfl (fun h => ?_)
      obtain ⟨r14, h1, h⟩ := Option.bind_eq_some_iff.mp h
      refine gv_d hq rfl rfl rfl rfl rfl (gv_dd (by omega) (t_M_thing X (d - 1) (by omega) D E _ _ _ h1)) (S' := (570, [some (.ref 2001), some (.ref 0), some (.ref 116), some (.int l3)], [.int r14, .int r13], D, E)) rfl ?_
      refine gv_b hq rfl h 2168 573 rfl rfl rfl (fun h => ?_) (fun h => ?_)
      · refine gv_n hq 2 (S' := (18, [some (.ref 2001), some (.ref 0), some (.ref 116), some (.int (l3 + (nI 6)))], [], D, E)) rfl ?_
        exact gv_w (K18 _ _ _ _ h) (And.intro rfl (And.intro rfl (And.intro rfl (And.intro rfl trivial))))
      · refine gv_n hq 1 (S' := (574, [some (.ref 2001), some (.ref 0), some (.ref 116), some (.int l3)], [.int (nI 0)], D, E)) rfl ?_
        cases h
        exact ev_ret hq rfl rfl ⟨rfl, rfl, rfl⟩
    refine gv_if h (fun c9 h => ?_) (fun c9 h => ?_)
    · refine ev_ins hq rfl (S' := (575, [some (.ref 2001), some (.ref 0), some (.ref 116), some (.int l3)], [], D, E)) (gv_sw (fun z => ((33, [some (.ref 2001), some (.ref 0), some (.ref 116), some (.int l3)], .int z :: [], D, E) : mx_S)) c9 rfl) ?_
      refine gv_n hq 5 (S' := (580, [some (.ref 2001), some (.ref 0), some (.ref 116), some (.int l3)], [.int (l3 + (nI 1)), .ref 2001, .ref 0], D, E)) rfl ?_
      refine gv_ix hq rfl rfl h 581 rfl (fun h => ?_)
      refine gv_n hq 4 (S' := (585, [some (.ref 2001), some (.ref 0), some (.ref 116), some (.int l3)], [.int (l3 + (nI 2)), .ref 2001, .int (X.2 ((l3 + (nI 1))).toNatClampNeg), .ref 0], D, E)) rfl ?_
      refine gv_ix hq rfl rfl h 586 rfl (fun h => ?_)
      obtain ⟨r15, h1, h⟩ := Option.bind_eq_some_iff.mp h
      refine gv_d hq rfl rfl rfl rfl rfl (gv_dd (by omega) (t_X_high X F (d - 1) (by omega) D E _ _ _ h1)) (S' := (589, [some (.ref 2001), some (.ref 0), some (.ref 116), some (.int l3)], [.int r15], D, E)) rfl ?_
      refine gv_n hq 5 (S' := (594, [some (.ref 2001), some (.ref 0), some (.ref 116), some (.int l3)], [.int (l3 + (nI 1)), .ref 2001, .ref 116, .int r15], D, E)) rfl ?_
      refine gv_ix hq rfl rfl h 595 rfl (fun h => ?_)
      refine gv_n hq 4 (S' := (599, [some (.ref 2001), some (.ref 0), some (.ref 116), some (.int l3)], [.int (l3 + (nI 2)), .ref 2001, .int (X.2 ((l3 + (nI 1))).toNatClampNeg), .ref 116, .int r15], D, E)) rfl ?_
      refine gv_ix hq rfl rfl h 600 rfl (fun h => ?_)
      obtain ⟨r16, h1, h⟩ := Option.bind_eq_some_iff.mp h
      refine gv_d hq rfl rfl rfl rfl rfl (gv_dd (by omega) (t_M_high X F (d - 1) (by omega) D E _ _ _ h1)) (S' := (603, [some (.ref 2001), some (.ref 0), some (.ref 116), some (.int l3)], [.int r16, .int r15], D, E)) rfl ?_
      refine gv_b hq rfl h 2168 606 rfl rfl rfl (fun h => ?_) (fun h => ?_)
      · refine gv_n hq 2 (S' := (18, [some (.ref 2001), some (.ref 0), some (.ref 116), some (.int (l3 + (nI 6)))], [], D, E)) rfl ?_
        exact gv_w (K18 _ _ _ _ h) (And.intro rfl (And.intro rfl (And.intro rfl (And.intro rfl trivial))))
      · refine gv_n hq 1 (S' := (607, [some (.ref 2001), some (.ref 0), some (.ref 116), some (.int l3)], [.int (nI 0)], D, E)) rfl ?_
        cases h
        exact ev_ret hq rfl rfl ⟨rfl, rfl, rfl⟩
    refine gv_if h (fun c10 h => ?_) (fun c10 h => ?_)
    · refine ev_ins hq rfl (S' := (608, [some (.ref 2001), some (.ref 0), some (.ref 116), some (.int l3)], [], D, E)) (gv_sw (fun z => ((33, [some (.ref 2001), some (.ref 0), some (.ref 116), some (.int l3)], .int z :: [], D, E) : mx_S)) c10 rfl) ?_
      refine gv_n hq 5 (S' := (613, [some (.ref 2001), some (.ref 0), some (.ref 116), some (.int l3)], [.int (l3 + (nI 1)), .ref 2001, .ref 0], D, E)) rfl ?_
      refine gv_ix hq rfl rfl h 614 rfl (fun h => ?_)
      refine gv_n hq 4 (S' := (618, [some (.ref 2001), some (.ref 0), some (.ref 116), some (.int l3)], [.int (l3 + (nI 2)), .ref 2001, .int (X.2 ((l3 + (nI 1))).toNatClampNeg), .ref 0], D, E)) rfl ?_
      refine gv_ix hq rfl rfl h 619 rfl (fun h => ?_)
      obtain ⟨r17, h1, h⟩ := Option.bind_eq_some_iff.mp h
      refine gv_d hq rfl rfl rfl rfl rfl (gv_dd (by omega) (t_X_spread X F (d - 1) (by omega) E _ _ _ _ h1)) (S' := (622, [some (.ref 2001), some (.ref 0), some (.ref 116), some (.int l3)], [.int r17.1], r17.2, E)) rfl ?_
      refine gv_n hq 5 (S' := (627, [some (.ref 2001), some (.ref 0), some (.ref 116), some (.int l3)], [.int (l3 + (nI 1)), .ref 2001, .ref 116, .int r17.1], r17.2, E)) rfl ?_
      refine gv_ix hq rfl rfl h 628 rfl (fun h => ?_)
      refine gv_n hq 4 (S' := (632, [some (.ref 2001), some (.ref 0), some (.ref 116), some (.int l3)], [.int (l3 + (nI 2)), .ref 2001, .int (X.2 ((l3 + (nI 1))).toNatClampNeg), .ref 116, .int r17.1], r17.2, E)) rfl ?_
      refine gv_ix hq rfl rfl h 633 rfl (fun h => ?_)
      obtain ⟨r18, h1, h⟩ := Option.bind_eq_some_iff.mp h
      refine gv_d hq rfl rfl rfl rfl rfl (gv_dd (by omega) (t_M_spread X F (d - 1) (by omega) E _ _ _ _ h1)) (S' := (636, [some (.ref 2001), some (.ref 0), some (.ref 116), some (.int l3)], [.int r18.1, .int r17.1], r18.2, E)) rfl ?_
      refine gv_b hq rfl h 2168 639 rfl rfl rfl (fun h => ?_) (fun h => ?_)
      · refine gv_n hq 2 (S' := (18, [some (.ref 2001), some (.ref 0), some (.ref 116), some (.int (l3 + (nI 6)))], [], r18.2, E)) rfl ?_
        exact gv_w (K18 _ _ _ _ h) (And.intro rfl (And.intro rfl (And.intro rfl (And.intro rfl trivial))))
      · refine gv_n hq 1 (S' := (640, [some (.ref 2001), some (.ref 0), some (.ref 116), some (.int l3)], [.int (nI 0)], r18.2, E)) rfl ?_
        cases h
        exact ev_ret hq rfl rfl ⟨rfl, rfl, rfl⟩
    refine gv_if h (fun c11 h => ?_) (fun c11 h => ?_)
    · refine ev_ins hq rfl (S' := (641, [some (.ref 2001), some (.ref 0), some (.ref 116), some (.int l3)], [], D, E)) (gv_sw (fun z => ((33, [some (.ref 2001), some (.ref 0), some (.ref 116), some (.int l3)], .int z :: [], D, E) : mx_S)) c11 rfl) ?_
      refine gv_n hq 5 (S' := (646, [some (.ref 2001), some (.ref 0), some (.ref 116), some (.int l3)], [.int (l3 + (nI 1)), .ref 2001, .ref 0], D, E)) rfl ?_
      refine gv_ix hq rfl rfl h 647 rfl (fun h => ?_)
      obtain ⟨r19, h1, h⟩ := Option.bind_eq_some_iff.mp h
      refine gv_d hq rfl rfl rfl rfl rfl (gv_dd (by omega) (t_X_level X F (d - 1) (by omega) E _ _ _ h1)) (S' := (650, [some (.ref 2001), some (.ref 0), some (.ref 116), some (.int l3)], [.int r19.1], r19.2, E)) rfl ?_
      refine gv_n hq 5 (S' := (655, [some (.ref 2001), some (.ref 0), some (.ref 116), some (.int l3)], [.int (l3 + (nI 1)), .ref 2001, .ref 116, .int r19.1], r19.2, E)) rfl ?_
      refine gv_ix hq rfl rfl h 656 rfl (fun h => ?_)
      obtain ⟨r20, h1, h⟩ := Option.bind_eq_some_iff.mp h
      refine gv_d hq rfl rfl rfl rfl rfl (gv_dd (by omega) (t_M_level X F (d - 1) (by omega) E _ _ _ h1)) (S' := (659, [some (.ref 2001), some (.ref 0), some (.ref 116), some (.int l3)], [.int r20.1, .int r19.1], r20.2, E)) rfl ?_
      refine gv_b hq rfl h 2168 662 rfl rfl rfl (fun h => ?_) (fun h => ?_)
      · refine gv_n hq 2 (S' := (18, [some (.ref 2001), some (.ref 0), some (.ref 116), some (.int (l3 + (nI 6)))], [], r20.2, E)) rfl ?_
        exact gv_w (K18 _ _ _ _ h) (And.intro rfl (And.intro rfl (And.intro rfl (And.intro rfl trivial))))
      · refine gv_n hq 1 (S' := (663, [some (.ref 2001), some (.ref 0), some (.ref 116), some (.int l3)], [.int (nI 0)], r20.2, E)) rfl ?_
        cases h
        exact ev_ret hq rfl rfl ⟨rfl, rfl, rfl⟩
    refine gv_if h (fun c12 h => ?_) (fun c12 h => ?_)
    · refine ev_ins hq rfl (S' := (664, [some (.ref 2001), some (.ref 0), some (.ref 116), some (.int l3)], [], D, E)) (gv_sw (fun z => ((33, [some (.ref 2001), some (.ref 0), some (.ref 116), some (.int l3)], .int z :: [], D, E) : mx_S)) c12 rfl) ?_
      refine gv_n hq 5 (S' := (669, [some (.ref 2001), some (.ref 0), some (.ref 116), some (.int l3)], [.int (l3 + (nI 1)), .ref 2001, .ref 0], D, E)) rfl ?_
      refine gv_ix hq rfl rfl h 670 rfl (fun h => ?_)
      obtain ⟨r21, h1, h⟩ := Option.bind_eq_some_iff.mp h
      refine gv_d hq rfl rfl rfl rfl rfl (gv_dd (by omega) (t_X_first X F (d - 1) (by omega) E _ _ _ h1)) (S' := (673, [some (.ref 2001), some (.ref 0), some (.ref 116), some (.int l3)], [.int r21.1], r21.2, E)) rfl ?_
      refine gv_n hq 5 (S' := (678, [some (.ref 2001), some (.ref 0), some (.ref 116), some (.int l3)], [.int (l3 + (nI 1)), .ref 2001, .ref 116, .int r21.1], r21.2, E)) rfl ?_
      refine gv_ix hq rfl rfl h 679 rfl (fun h => ?_)
      obtain ⟨r22, h1, h⟩ := Option.bind_eq_some_iff.mp h
      refine gv_d hq rfl rfl rfl rfl rfl (gv_dd (by omega) (t_M_first X F (d - 1) (by omega) E _ _ _ h1)) (S' := (682, [some (.ref 2001), some (.ref 0), some (.ref 116), some (.int l3)], [.int r22.1, .int r21.1], r22.2, E)) rfl ?_
      refine gv_b hq rfl h 2168 685 rfl rfl rfl (fun h => ?_) (fun h => ?_)
      · refine gv_n hq 2 (S' := (18, [some (.ref 2001), some (.ref 0), some (.ref 116), some (.int (l3 + (nI 6)))], [], r22.2, E)) rfl ?_
        exact gv_w (K18 _ _ _ _ h) (And.intro rfl (And.intro rfl (And.intro rfl (And.intro rfl trivial))))
      · refine gv_n hq 1 (S' := (686, [some (.ref 2001), some (.ref 0), some (.ref 116), some (.int l3)], [.int (nI 0)], r22.2, E)) rfl ?_
        cases h
        exact ev_ret hq rfl rfl ⟨rfl, rfl, rfl⟩
    refine gv_if h (fun c13 h => ?_) (fun c13 h => ?_)
    · refine ev_ins hq rfl (S' := (687, [some (.ref 2001), some (.ref 0), some (.ref 116), some (.int l3)], [], D, E)) (gv_sw (fun z => ((33, [some (.ref 2001), some (.ref 0), some (.ref 116), some (.int l3)], .int z :: [], D, E) : mx_S)) c13 rfl) ?_
      refine gv_n hq 5 (S' := (692, [some (.ref 2001), some (.ref 0), some (.ref 116), some (.int l3)], [.int (l3 + (nI 1)), .ref 2001, .ref 0], D, E)) rfl ?_
      refine gv_ix hq rfl rfl h 693 rfl (fun h => ?_)
      refine gv_n hq 4 (S' := (697, [some (.ref 2001), some (.ref 0), some (.ref 116), some (.int l3)], [.int (l3 + (nI 2)), .ref 2001, .int (X.2 ((l3 + (nI 1))).toNatClampNeg), .ref 0], D, E)) rfl ?_
      refine gv_ix hq rfl rfl h 698 rfl (fun h => ?_)
      obtain ⟨r23, h1, h⟩ := Option.bind_eq_some_iff.mp h
      refine gv_d hq rfl rfl rfl rfl rfl (gv_dd (by omega) (t_X_out X F (d - 1) (by omega) E _ _ _ _ h1)) (S' := (701, [some (.ref 2001), some (.ref 0), some (.ref 116), some (.int l3)], [.int r23.1], r23.2, E)) rfl ?_
      refine gv_n hq 5 (S' := (706, [some (.ref 2001), some (.ref 0), some (.ref 116), some (.int l3)], [.int (l3 + (nI 1)), .ref 2001, .ref 116, .int r23.1], r23.2, E)) rfl ?_
      refine gv_ix hq rfl rfl h 707 rfl (fun h => ?_)
      refine gv_n hq 4 (S' := (711, [some (.ref 2001), some (.ref 0), some (.ref 116), some (.int l3)], [.int (l3 + (nI 2)), .ref 2001, .int (X.2 ((l3 + (nI 1))).toNatClampNeg), .ref 116, .int r23.1], r23.2, E)) rfl ?_
      refine gv_ix hq rfl rfl h 712 rfl (fun h => ?_)
      obtain ⟨r24, h1, h⟩ := Option.bind_eq_some_iff.mp h
      refine gv_d hq rfl rfl rfl rfl rfl (gv_dd (by omega) (t_M_out X F (d - 1) (by omega) E _ _ _ _ h1)) (S' := (715, [some (.ref 2001), some (.ref 0), some (.ref 116), some (.int l3)], [.int r24.1, .int r23.1], r24.2, E)) rfl ?_
      refine gv_b hq rfl h 2168 718 rfl rfl rfl (fun h => ?_) (fun h => ?_)
      · refine gv_n hq 2 (S' := (18, [some (.ref 2001), some (.ref 0), some (.ref 116), some (.int (l3 + (nI 6)))], [], r24.2, E)) rfl ?_
        exact gv_w (K18 _ _ _ _ h) (And.intro rfl (And.intro rfl (And.intro rfl (And.intro rfl trivial))))
      · refine gv_n hq 1 (S' := (719, [some (.ref 2001), some (.ref 0), some (.ref 116), some (.int l3)], [.int (nI 0)], r24.2, E)) rfl ?_
        cases h
        exact ev_ret hq rfl rfl ⟨rfl, rfl, rfl⟩
    refine gv_if h (fun c14 h => ?_) (fun c14 h => ?_)
    · refine ev_ins hq rfl (S' := (720, [some (.ref 2001), some (.ref 0), some (.ref 116), some (.int l3)], [], D, E)) (gv_sw (fun z => ((33, [some (.ref 2001), some (.ref 0), some (.ref 116), some (.int l3)], .int z :: [], D, E) : mx_S)) c14 rfl) ?_
      refine gv_n hq 5 (S' := (725, [some (.ref 2001), some (.ref 0), some (.ref 116), some (.int l3)], [.int (l3 + (nI 1)), .ref 2001, .ref 0], D, E)) rfl ?_
      refine gv_ix hq rfl rfl h 726 rfl (fun h => ?_)
      refine gv_n hq 4 (S' := (730, [some (.ref 2001), some (.ref 0), some (.ref 116), some (.int l3)], [.int (l3 + (nI 2)), .ref 2001, .int (X.2 ((l3 + (nI 1))).toNatClampNeg), .ref 0], D, E)) rfl ?_
      refine gv_ix hq rfl rfl h 731 rfl (fun h => ?_)
      obtain ⟨r25, h1, h⟩ := Option.bind_eq_some_iff.mp h
      refine gv_d hq rfl rfl rfl rfl rfl (gv_dd (by omega) (t_X_above X F (d - 1) (by omega) E _ _ _ _ h1)) (S' := (734, [some (.ref 2001), some (.ref 0), some (.ref 116), some (.int l3)], [.int r25.1], r25.2, E)) rfl ?_
      refine gv_n hq 5 (S' := (739, [some (.ref 2001), some (.ref 0), some (.ref 116), some (.int l3)], [.int (l3 + (nI 1)), .ref 2001, .ref 116, .int r25.1], r25.2, E)) rfl ?_
      refine gv_ix hq rfl rfl h 740 rfl (fun h => ?_)
      refine gv_n hq 4 (S' := (744, [some (.ref 2001), some (.ref 0), some (.ref 116), some (.int l3)], [.int (l3 + (nI 2)), .ref 2001, .int (X.2 ((l3 + (nI 1))).toNatClampNeg), .ref 116, .int r25.1], r25.2, E)) rfl ?_
      refine gv_ix hq rfl rfl h 745 rfl (fun h => ?_)
      obtain ⟨r26, h1, h⟩ := Option.bind_eq_some_iff.mp h
      refine gv_d hq rfl rfl rfl rfl rfl (gv_dd (by omega) (t_M_above X F (d - 1) (by omega) E _ _ _ _ h1)) (S' := (748, [some (.ref 2001), some (.ref 0), some (.ref 116), some (.int l3)], [.int r26.1, .int r25.1], r26.2, E)) rfl ?_
      refine gv_b hq rfl h 2168 751 rfl rfl rfl (fun h => ?_) (fun h => ?_)
      · refine gv_n hq 2 (S' := (18, [some (.ref 2001), some (.ref 0), some (.ref 116), some (.int (l3 + (nI 6)))], [], r26.2, E)) rfl ?_
        exact gv_w (K18 _ _ _ _ h) (And.intro rfl (And.intro rfl (And.intro rfl (And.intro rfl trivial))))
      · refine gv_n hq 1 (S' := (752, [some (.ref 2001), some (.ref 0), some (.ref 116), some (.int l3)], [.int (nI 0)], r26.2, E)) rfl ?_
        cases h
        exact ev_ret hq rfl rfl ⟨rfl, rfl, rfl⟩
    refine gv_if h (fun c15 h => ?_) (fun c15 h => ?_)
    · refine ev_ins hq rfl (S' := (753, [some (.ref 2001), some (.ref 0), some (.ref 116), some (.int l3)], [], D, E)) (gv_sw (fun z => ((33, [some (.ref 2001), some (.ref 0), some (.ref 116), some (.int l3)], .int z :: [], D, E) : mx_S)) c15 rfl) ?_
      refine gv_n hq 5 (S' := (758, [some (.ref 2001), some (.ref 0), some (.ref 116), some (.int l3)], [.int (l3 + (nI 1)), .ref 2001, .ref 0], D, E)) rfl ?_
      refine gv_ix hq rfl rfl h 759 rfl (fun h => ?_)
      obtain ⟨r27, h1, h⟩ := Option.bind_eq_some_iff.mp h
      refine gv_d hq rfl rfl rfl rfl rfl (gv_dd (by omega) (t_X_saws X F (d - 1) (by omega) E _ _ _ h1)) (S' := (762, [some (.ref 2001), some (.ref 0), some (.ref 116), some (.int l3)], [.int r27.1], r27.2, E)) rfl ?_
      refine gv_n hq 5 (S' := (767, [some (.ref 2001), some (.ref 0), some (.ref 116), some (.int l3)], [.int (l3 + (nI 1)), .ref 2001, .ref 116, .int r27.1], r27.2, E)) rfl ?_
      refine gv_ix hq rfl rfl h 768 rfl (fun h => ?_)
      obtain ⟨r28, h1, h⟩ := Option.bind_eq_some_iff.mp h
      refine gv_d hq rfl rfl rfl rfl rfl (gv_dd (by omega) (t_M_saws X F (d - 1) (by omega) E _ _ _ h1)) (S' := (771, [some (.ref 2001), some (.ref 0), some (.ref 116), some (.int l3)], [.int r28.1, .int r27.1], r28.2, E)) rfl ?_
      refine gv_b hq rfl h 2168 774 rfl rfl rfl (fun h => ?_) (fun h => ?_)
      · refine gv_n hq 2 (S' := (18, [some (.ref 2001), some (.ref 0), some (.ref 116), some (.int (l3 + (nI 6)))], [], r28.2, E)) rfl ?_
        exact gv_w (K18 _ _ _ _ h) (And.intro rfl (And.intro rfl (And.intro rfl (And.intro rfl trivial))))
      · refine gv_n hq 1 (S' := (775, [some (.ref 2001), some (.ref 0), some (.ref 116), some (.int l3)], [.int (nI 0)], r28.2, E)) rfl ?_
        cases h
        exact ev_ret hq rfl rfl ⟨rfl, rfl, rfl⟩
    refine gv_if h (fun c16 h => ?_) (fun c16 h => ?_)
    · refine ev_ins hq rfl (S' := (776, [some (.ref 2001), some (.ref 0), some (.ref 116), some (.int l3)], [], D, E)) (gv_sw (fun z => ((33, [some (.ref 2001), some (.ref 0), some (.ref 116), some (.int l3)], .int z :: [], D, E) : mx_S)) c16 rfl) ?_
      refine gv_n hq 5 (S' := (781, [some (.ref 2001), some (.ref 0), some (.ref 116), some (.int l3)], [.int (l3 + (nI 1)), .ref 2001, .ref 0], D, E)) rfl ?_
      refine gv_ix hq rfl rfl h 782 rfl (fun h => ?_)
      refine gv_n hq 4 (S' := (786, [some (.ref 2001), some (.ref 0), some (.ref 116), some (.int l3)], [.int (l3 + (nI 2)), .ref 2001, .int (X.2 ((l3 + (nI 1))).toNatClampNeg), .ref 0], D, E)) rfl ?_
      refine gv_ix hq rfl rfl h 787 rfl (fun h => ?_)
      obtain ⟨r29, h1, h⟩ := Option.bind_eq_some_iff.mp h
      refine gv_d hq rfl rfl rfl rfl rfl (gv_dd (by omega) (t_X_saw X F (d - 1) (by omega) E _ _ _ _ h1)) (S' := (790, [some (.ref 2001), some (.ref 0), some (.ref 116), some (.int l3)], [.int r29.1], r29.2, E)) rfl ?_
      refine gv_n hq 5 (S' := (795, [some (.ref 2001), some (.ref 0), some (.ref 116), some (.int l3)], [.int (l3 + (nI 1)), .ref 2001, .ref 116, .int r29.1], r29.2, E)) rfl ?_
      refine gv_ix hq rfl rfl h 796 rfl (fun h => ?_)
      refine gv_n hq 4 (S' := (800, [some (.ref 2001), some (.ref 0), some (.ref 116), some (.int l3)], [.int (l3 + (nI 2)), .ref 2001, .int (X.2 ((l3 + (nI 1))).toNatClampNeg), .ref 116, .int r29.1], r29.2, E)) rfl ?_
      refine gv_ix hq rfl rfl h 801 rfl (fun h => ?_)
      obtain ⟨r30, h1, h⟩ := Option.bind_eq_some_iff.mp h
      refine gv_d hq rfl rfl rfl rfl rfl (gv_dd (by omega) (t_M_saw X F (d - 1) (by omega) E _ _ _ _ h1)) (S' := (804, [some (.ref 2001), some (.ref 0), some (.ref 116), some (.int l3)], [.int r30.1, .int r29.1], r30.2, E)) rfl ?_
      refine gv_b hq rfl h 2168 807 rfl rfl rfl (fun h => ?_) (fun h => ?_)
      · refine gv_n hq 2 (S' := (18, [some (.ref 2001), some (.ref 0), some (.ref 116), some (.int (l3 + (nI 6)))], [], r30.2, E)) rfl ?_
        exact gv_w (K18 _ _ _ _ h) (And.intro rfl (And.intro rfl (And.intro rfl (And.intro rfl trivial))))
      · refine gv_n hq 1 (S' := (808, [some (.ref 2001), some (.ref 0), some (.ref 116), some (.int l3)], [.int (nI 0)], r30.2, E)) rfl ?_
        cases h
        exact ev_ret hq rfl rfl ⟨rfl, rfl, rfl⟩
    refine gv_if h (fun c17 h => ?_) (fun c17 h => ?_)
    · refine ev_ins hq rfl (S' := (809, [some (.ref 2001), some (.ref 0), some (.ref 116), some (.int l3)], [], D, E)) (gv_sw (fun z => ((33, [some (.ref 2001), some (.ref 0), some (.ref 116), some (.int l3)], .int z :: [], D, E) : mx_S)) c17 rfl) ?_
      refine gv_n hq 5 (S' := (814, [some (.ref 2001), some (.ref 0), some (.ref 116), some (.int l3)], [.int (l3 + (nI 1)), .ref 2001, .ref 0], D, E)) rfl ?_
      refine gv_ix hq rfl rfl h 815 rfl (fun h => ?_)
      obtain ⟨r31, h1, h⟩ := Option.bind_eq_some_iff.mp h
      refine gv_d hq rfl rfl rfl rfl rfl (gv_dd (by omega) (t_X_ways X F (d - 1) (by omega) E _ _ _ h1)) (S' := (818, [some (.ref 2001), some (.ref 0), some (.ref 116), some (.int l3)], [.int r31.1], r31.2, E)) rfl ?_
      refine gv_n hq 5 (S' := (823, [some (.ref 2001), some (.ref 0), some (.ref 116), some (.int l3)], [.int (l3 + (nI 1)), .ref 2001, .ref 116, .int r31.1], r31.2, E)) rfl ?_
      refine gv_ix hq rfl rfl h 824 rfl (fun h => ?_)
      obtain ⟨r32, h1, h⟩ := Option.bind_eq_some_iff.mp h
      refine gv_d hq rfl rfl rfl rfl rfl (gv_dd (by omega) (t_M_ways X F (d - 1) (by omega) E _ _ _ h1)) (S' := (827, [some (.ref 2001), some (.ref 0), some (.ref 116), some (.int l3)], [.int r32.1, .int r31.1], r32.2, E)) rfl ?_
      refine gv_b hq rfl h 2168 830 rfl rfl rfl (fun h => ?_) (fun h => ?_)
      · refine gv_n hq 2 (S' := (18, [some (.ref 2001), some (.ref 0), some (.ref 116), some (.int (l3 + (nI 6)))], [], r32.2, E)) rfl ?_
        exact gv_w (K18 _ _ _ _ h) (And.intro rfl (And.intro rfl (And.intro rfl (And.intro rfl trivial))))
      · refine gv_n hq 1 (S' := (831, [some (.ref 2001), some (.ref 0), some (.ref 116), some (.int l3)], [.int (nI 0)], r32.2, E)) rfl ?_
        cases h
        exact ev_ret hq rfl rfl ⟨rfl, rfl, rfl⟩
    refine gv_if h (fun c18 h => ?_) (fun c18 h => ?_)
    · refine ev_ins hq rfl (S' := (832, [some (.ref 2001), some (.ref 0), some (.ref 116), some (.int l3)], [], D, E)) (gv_sw (fun z => ((33, [some (.ref 2001), some (.ref 0), some (.ref 116), some (.int l3)], .int z :: [], D, E) : mx_S)) c18 rfl) ?_
      refine gv_n hq 5 (S' := (837, [some (.ref 2001), some (.ref 0), some (.ref 116), some (.int l3)], [.int (l3 + (nI 1)), .ref 2001, .ref 0], D, E)) rfl ?_
      refine gv_ix hq rfl rfl h 838 rfl (fun h => ?_)
      obtain ⟨r33, h1, h⟩ := Option.bind_eq_some_iff.mp h
      refine gv_d hq rfl rfl rfl rfl rfl (gv_dd (by omega) (t_X_ever X F (d - 1) (by omega) E _ _ _ h1)) (S' := (841, [some (.ref 2001), some (.ref 0), some (.ref 116), some (.int l3)], [.int r33.1], r33.2, E)) rfl ?_
      refine gv_n hq 5 (S' := (846, [some (.ref 2001), some (.ref 0), some (.ref 116), some (.int l3)], [.int (l3 + (nI 1)), .ref 2001, .ref 116, .int r33.1], r33.2, E)) rfl ?_
      refine gv_ix hq rfl rfl h 847 rfl (fun h => ?_)
      obtain ⟨r34, h1, h⟩ := Option.bind_eq_some_iff.mp h
      refine gv_d hq rfl rfl rfl rfl rfl (gv_dd (by omega) (t_M_ever X F (d - 1) (by omega) E _ _ _ h1)) (S' := (850, [some (.ref 2001), some (.ref 0), some (.ref 116), some (.int l3)], [.int r34.1, .int r33.1], r34.2, E)) rfl ?_
      refine gv_b hq rfl h 2168 853 rfl rfl rfl (fun h => ?_) (fun h => ?_)
      · refine gv_n hq 2 (S' := (18, [some (.ref 2001), some (.ref 0), some (.ref 116), some (.int (l3 + (nI 6)))], [], r34.2, E)) rfl ?_
        exact gv_w (K18 _ _ _ _ h) (And.intro rfl (And.intro rfl (And.intro rfl (And.intro rfl trivial))))
      · refine gv_n hq 1 (S' := (854, [some (.ref 2001), some (.ref 0), some (.ref 116), some (.int l3)], [.int (nI 0)], r34.2, E)) rfl ?_
        cases h
        exact ev_ret hq rfl rfl ⟨rfl, rfl, rfl⟩
    refine gv_if h (fun c19 h => ?_) (fun c19 h => ?_)
    · refine ev_ins hq rfl (S' := (855, [some (.ref 2001), some (.ref 0), some (.ref 116), some (.int l3)], [], D, E)) (gv_sw (fun z => ((33, [some (.ref 2001), some (.ref 0), some (.ref 116), some (.int l3)], .int z :: [], D, E) : mx_S)) c19 rfl) ?_
      refine gv_n hq 5 (S' := (860, [some (.ref 2001), some (.ref 0), some (.ref 116), some (.int l3)], [.int (l3 + (nI 1)), .ref 2001, .ref 0], D, E)) rfl ?_
      refine gv_ix hq rfl rfl h 861 rfl (fun h => ?_)
      refine gv_n hq 4 (S' := (865, [some (.ref 2001), some (.ref 0), some (.ref 116), some (.int l3)], [.int (l3 + (nI 2)), .ref 2001, .int (X.2 ((l3 + (nI 1))).toNatClampNeg), .ref 0], D, E)) rfl ?_
      refine gv_ix hq rfl rfl h 866 rfl (fun h => ?_)
      obtain ⟨r35, h1, h⟩ := Option.bind_eq_some_iff.mp h
      refine gv_d hq rfl rfl rfl rfl rfl (gv_dd (by omega) (t_X_sawn X F (d - 1) (by omega) E _ _ _ _ h1)) (S' := (869, [some (.ref 2001), some (.ref 0), some (.ref 116), some (.int l3)], [.int r35.1], r35.2, E)) rfl ?_
      refine gv_n hq 5 (S' := (874, [some (.ref 2001), some (.ref 0), some (.ref 116), some (.int l3)], [.int (l3 + (nI 1)), .ref 2001, .ref 116, .int r35.1], r35.2, E)) rfl ?_
      refine gv_ix hq rfl rfl h 875 rfl (fun h => ?_)
      refine gv_n hq 4 (S' := (879, [some (.ref 2001), some (.ref 0), some (.ref 116), some (.int l3)], [.int (l3 + (nI 2)), .ref 2001, .int (X.2 ((l3 + (nI 1))).toNatClampNeg), .ref 116, .int r35.1], r35.2, E)) rfl ?_
      refine gv_ix hq rfl rfl h 880 rfl (fun h => ?_)
      obtain ⟨r36, h1, h⟩ := Option.bind_eq_some_iff.mp h
      refine gv_d hq rfl rfl rfl rfl rfl (gv_dd (by omega) (t_M_sawn X F (d - 1) (by omega) E _ _ _ _ h1)) (S' := (883, [some (.ref 2001), some (.ref 0), some (.ref 116), some (.int l3)], [.int r36.1, .int r35.1], r36.2, E)) rfl ?_
      refine gv_b hq rfl h 2168 886 rfl rfl rfl (fun h => ?_) (fun h => ?_)
      · refine gv_n hq 2 (S' := (18, [some (.ref 2001), some (.ref 0), some (.ref 116), some (.int (l3 + (nI 6)))], [], r36.2, E)) rfl ?_
        exact gv_w (K18 _ _ _ _ h) (And.intro rfl (And.intro rfl (And.intro rfl (And.intro rfl trivial))))
      · refine gv_n hq 1 (S' := (887, [some (.ref 2001), some (.ref 0), some (.ref 116), some (.int l3)], [.int (nI 0)], r36.2, E)) rfl ?_
        cases h
        exact ev_ret hq rfl rfl ⟨rfl, rfl, rfl⟩
    refine gv_if h (fun c20 h => ?_) (fun c20 h => ?_)
    · refine ev_ins hq rfl (S' := (888, [some (.ref 2001), some (.ref 0), some (.ref 116), some (.int l3)], [], D, E)) (gv_sw (fun z => ((33, [some (.ref 2001), some (.ref 0), some (.ref 116), some (.int l3)], .int z :: [], D, E) : mx_S)) c20 rfl) ?_
      refine gv_n hq 1 (S' := (889, [some (.ref 2001), some (.ref 0), some (.ref 116), some (.int l3)], [.ref 0], D, E)) rfl ?_
      obtain ⟨r37, h1, h⟩ := Option.bind_eq_some_iff.mp h
      refine gv_d hq rfl rfl rfl rfl rfl (gv_dd (by omega) (t_X_lasts X F (d - 1) (by omega) E _ _ h1)) (S' := (892, [some (.ref 2001), some (.ref 0), some (.ref 116), some (.int l3)], [.int r37.1], r37.2, E)) rfl ?_
      refine gv_n hq 1 (S' := (893, [some (.ref 2001), some (.ref 0), some (.ref 116), some (.int l3)], [.ref 116, .int r37.1], r37.2, E)) rfl ?_
      obtain ⟨r38, h1, h⟩ := Option.bind_eq_some_iff.mp h
      refine gv_d hq rfl rfl rfl rfl rfl (gv_dd (by omega) (t_M_lasts X F (d - 1) (by omega) E _ _ h1)) (S' := (896, [some (.ref 2001), some (.ref 0), some (.ref 116), some (.int l3)], [.int r38.1, .int r37.1], r38.2, E)) rfl ?_
      refine gv_b hq rfl h 2168 899 rfl rfl rfl (fun h => ?_) (fun h => ?_)
      · refine gv_n hq 2 (S' := (18, [some (.ref 2001), some (.ref 0), some (.ref 116), some (.int (l3 + (nI 6)))], [], r38.2, E)) rfl ?_
        exact gv_w (K18 _ _ _ _ h) (And.intro rfl (And.intro rfl (And.intro rfl (And.intro rfl trivial))))
      · refine gv_n hq 1 (S' := (900, [some (.ref 2001), some (.ref 0), some (.ref 116), some (.int l3)], [.int (nI 0)], r38.2, E)) rfl ?_
        cases h
        exact ev_ret hq rfl rfl ⟨rfl, rfl, rfl⟩
    refine gv_if h (fun c21 h => ?_) (fun c21 h => ?_)
    · refine ev_ins hq rfl (S' := (901, [some (.ref 2001), some (.ref 0), some (.ref 116), some (.int l3)], [], D, E)) (gv_sw (fun z => ((33, [some (.ref 2001), some (.ref 0), some (.ref 116), some (.int l3)], .int z :: [], D, E) : mx_S)) c21 rfl) ?_
      refine gv_n hq 5 (S' := (906, [some (.ref 2001), some (.ref 0), some (.ref 116), some (.int l3)], [.int (l3 + (nI 1)), .ref 2001, .ref 0], D, E)) rfl ?_
      refine gv_ix hq rfl rfl h 907 rfl (fun h => ?_)
      obtain ⟨r39, h1, h⟩ := Option.bind_eq_some_iff.mp h
      refine gv_d hq rfl rfl rfl rfl rfl (gv_dd (by omega) (t_X_clash X F (d - 1) (by omega) E _ _ _ h1)) (S' := (910, [some (.ref 2001), some (.ref 0), some (.ref 116), some (.int l3)], [.int r39.1], r39.2, E)) rfl ?_
      refine gv_n hq 5 (S' := (915, [some (.ref 2001), some (.ref 0), some (.ref 116), some (.int l3)], [.int (l3 + (nI 1)), .ref 2001, .ref 116, .int r39.1], r39.2, E)) rfl ?_
      refine gv_ix hq rfl rfl h 916 rfl (fun h => ?_)
      obtain ⟨r40, h1, h⟩ := Option.bind_eq_some_iff.mp h
      refine gv_d hq rfl rfl rfl rfl rfl (gv_dd (by omega) (t_M_clash X F (d - 1) (by omega) E _ _ _ h1)) (S' := (919, [some (.ref 2001), some (.ref 0), some (.ref 116), some (.int l3)], [.int r40.1, .int r39.1], r40.2, E)) rfl ?_
      refine gv_b hq rfl h 2168 922 rfl rfl rfl (fun h => ?_) (fun h => ?_)
      · refine gv_n hq 2 (S' := (18, [some (.ref 2001), some (.ref 0), some (.ref 116), some (.int (l3 + (nI 6)))], [], r40.2, E)) rfl ?_
        exact gv_w (K18 _ _ _ _ h) (And.intro rfl (And.intro rfl (And.intro rfl (And.intro rfl trivial))))
      · refine gv_n hq 1 (S' := (923, [some (.ref 2001), some (.ref 0), some (.ref 116), some (.int l3)], [.int (nI 0)], r40.2, E)) rfl ?_
        cases h
        exact ev_ret hq rfl rfl ⟨rfl, rfl, rfl⟩
    refine gv_if h (fun c22 h => ?_) (fun c22 h => ?_)
    · refine ev_ins hq rfl (S' := (924, [some (.ref 2001), some (.ref 0), some (.ref 116), some (.int l3)], [], D, E)) (gv_sw (fun z => ((33, [some (.ref 2001), some (.ref 0), some (.ref 116), some (.int l3)], .int z :: [], D, E) : mx_S)) c22 rfl) ?_
      refine gv_n hq 5 (S' := (929, [some (.ref 2001), some (.ref 0), some (.ref 116), some (.int l3)], [.int (l3 + (nI 1)), .ref 2001, .ref 0], D, E)) rfl ?_
      refine gv_ix hq rfl rfl h 930 rfl (fun h => ?_)
      obtain ⟨r41, h1, h⟩ := Option.bind_eq_some_iff.mp h
      refine gv_d hq rfl rfl rfl rfl rfl (gv_dd (by omega) (t_X_shuts X F (d - 1) (by omega) E _ _ _ h1)) (S' := (933, [some (.ref 2001), some (.ref 0), some (.ref 116), some (.int l3)], [.int r41.1], r41.2, E)) rfl ?_
      refine gv_n hq 5 (S' := (938, [some (.ref 2001), some (.ref 0), some (.ref 116), some (.int l3)], [.int (l3 + (nI 1)), .ref 2001, .ref 116, .int r41.1], r41.2, E)) rfl ?_
      refine gv_ix hq rfl rfl h 939 rfl (fun h => ?_)
      obtain ⟨r42, h1, h⟩ := Option.bind_eq_some_iff.mp h
      refine gv_d hq rfl rfl rfl rfl rfl (gv_dd (by omega) (t_M_shuts X F (d - 1) (by omega) E _ _ _ h1)) (S' := (942, [some (.ref 2001), some (.ref 0), some (.ref 116), some (.int l3)], [.int r42.1, .int r41.1], r42.2, E)) rfl ?_
      refine gv_b hq rfl h 2168 945 rfl rfl rfl (fun h => ?_) (fun h => ?_)
      · refine gv_n hq 2 (S' := (18, [some (.ref 2001), some (.ref 0), some (.ref 116), some (.int (l3 + (nI 6)))], [], r42.2, E)) rfl ?_
        exact gv_w (K18 _ _ _ _ h) (And.intro rfl (And.intro rfl (And.intro rfl (And.intro rfl trivial))))
      · refine gv_n hq 1 (S' := (946, [some (.ref 2001), some (.ref 0), some (.ref 116), some (.int l3)], [.int (nI 0)], r42.2, E)) rfl ?_
        cases h
        exact ev_ret hq rfl rfl ⟨rfl, rfl, rfl⟩
    refine gv_if h (fun c23 h => ?_) (fun c23 h => ?_)
    · refine ev_ins hq rfl (S' := (947, [some (.ref 2001), some (.ref 0), some (.ref 116), some (.int l3)], [], D, E)) (gv_sw (fun z => ((33, [some (.ref 2001), some (.ref 0), some (.ref 116), some (.int l3)], .int z :: [], D, E) : mx_S)) c23 rfl) ?_
      refine gv_n hq 5 (S' := (952, [some (.ref 2001), some (.ref 0), some (.ref 116), some (.int l3)], [.int (l3 + (nI 1)), .ref 2001, .ref 0], D, E)) rfl ?_
      refine gv_ix hq rfl rfl h 953 rfl (fun h => ?_)
      refine gv_n hq 4 (S' := (957, [some (.ref 2001), some (.ref 0), some (.ref 116), some (.int l3)], [.int (l3 + (nI 2)), .ref 2001, .int (X.2 ((l3 + (nI 1))).toNatClampNeg), .ref 0], D, E)) rfl ?_
      refine gv_ix hq rfl rfl h 958 rfl (fun h => ?_)
      obtain ⟨r43, h1, h⟩ := Option.bind_eq_some_iff.mp h
      refine gv_d hq rfl rfl rfl rfl rfl (gv_dd (by omega) (t_X_cut X (d - 1) (by omega) E _ _ _ _ h1)) (S' := (961, [some (.ref 2001), some (.ref 0), some (.ref 116), some (.int l3)], [.int r43.1], r43.2, E)) rfl ?_
      refine gv_n hq 5 (S' := (966, [some (.ref 2001), some (.ref 0), some (.ref 116), some (.int l3)], [.int (l3 + (nI 1)), .ref 2001, .ref 116, .int r43.1], r43.2, E)) rfl ?_
      refine gv_ix hq rfl rfl h 967 rfl (fun h => ?_)
      refine gv_n hq 4 (S' := (971, [some (.ref 2001), some (.ref 0), some (.ref 116), some (.int l3)], [.int (l3 + (nI 2)), .ref 2001, .int (X.2 ((l3 + (nI 1))).toNatClampNeg), .ref 116, .int r43.1], r43.2, E)) rfl ?_
      refine gv_ix hq rfl rfl h 972 rfl (fun h => ?_)
      obtain ⟨r44, h1, h⟩ := Option.bind_eq_some_iff.mp h
      refine gv_d hq rfl rfl rfl rfl rfl (gv_dd (by omega) (t_M_cut X (d - 1) (by omega) E _ _ _ _ h1)) (S' := (975, [some (.ref 2001), some (.ref 0), some (.ref 116), some (.int l3)], [.int r44.1, .int r43.1], r44.2, E)) rfl ?_
      refine gv_b hq rfl h 2168 978 rfl rfl rfl (fun h => ?_) (fun h => ?_)
      · refine gv_n hq 2 (S' := (18, [some (.ref 2001), some (.ref 0), some (.ref 116), some (.int (l3 + (nI 6)))], [], r44.2, E)) rfl ?_
        exact gv_w (K18 _ _ _ _ h) (And.intro rfl (And.intro rfl (And.intro rfl (And.intro rfl trivial))))
      · refine gv_n hq 1 (S' := (979, [some (.ref 2001), some (.ref 0), some (.ref 116), some (.int l3)], [.int (nI 0)], r44.2, E)) rfl ?_
        cases h
        exact ev_ret hq rfl rfl ⟨rfl, rfl, rfl⟩
    refine gv_if h (fun c24 h => ?_) (fun c24 h => ?_)
    · refine ev_ins hq rfl (S' := (980, [some (.ref 2001), some (.ref 0), some (.ref 116), some (.int l3)], [], D, E)) (gv_sw (fun z => ((33, [some (.ref 2001), some (.ref 0), some (.ref 116), some (.int l3)], .int z :: [], D, E) : mx_S)) c24 rfl) ?_
      refine gv_n hq 5 (S' := (985, [some (.ref 2001), some (.ref 0), some (.ref 116), some (.int l3)], [.int (l3 + (nI 1)), .ref 2001, .ref 0], D, E)) rfl ?_
      refine gv_ix hq rfl rfl h 986 rfl (fun h => ?_)
      obtain ⟨r45, h1, h⟩ := Option.bind_eq_some_iff.mp h
      refine gv_d hq rfl rfl rfl rfl rfl (gv_dd (by omega) (t_X_books X F (d - 1) (by omega) E _ _ _ h1)) (S' := (989, [some (.ref 2001), some (.ref 0), some (.ref 116), some (.int l3)], [.int r45.1], r45.2, E)) rfl ?_
      refine gv_n hq 5 (S' := (994, [some (.ref 2001), some (.ref 0), some (.ref 116), some (.int l3)], [.int (l3 + (nI 1)), .ref 2001, .ref 116, .int r45.1], r45.2, E)) rfl ?_
      refine gv_ix hq rfl rfl h 995 rfl (fun h => ?_)
      obtain ⟨r46, h1, h⟩ := Option.bind_eq_some_iff.mp h
      refine gv_d hq rfl rfl rfl rfl rfl (gv_dd (by omega) (t_M_books X F (d - 1) (by omega) E _ _ _ h1)) (S' := (998, [some (.ref 2001), some (.ref 0), some (.ref 116), some (.int l3)], [.int r46.1, .int r45.1], r46.2, E)) rfl ?_
      refine gv_b hq rfl h 2168 1001 rfl rfl rfl (fun h => ?_) (fun h => ?_)
      · refine gv_n hq 2 (S' := (18, [some (.ref 2001), some (.ref 0), some (.ref 116), some (.int (l3 + (nI 6)))], [], r46.2, E)) rfl ?_
        exact gv_w (K18 _ _ _ _ h) (And.intro rfl (And.intro rfl (And.intro rfl (And.intro rfl trivial))))
      · refine gv_n hq 1 (S' := (1002, [some (.ref 2001), some (.ref 0), some (.ref 116), some (.int l3)], [.int (nI 0)], r46.2, E)) rfl ?_
        cases h
        exact ev_ret hq rfl rfl ⟨rfl, rfl, rfl⟩
    refine gv_if h (fun c25 h => ?_) (fun c25 h => ?_)
    · refine ev_ins hq rfl (S' := (1003, [some (.ref 2001), some (.ref 0), some (.ref 116), some (.int l3)], [], D, E)) (gv_sw (fun z => ((33, [some (.ref 2001), some (.ref 0), some (.ref 116), some (.int l3)], .int z :: [], D, E) : mx_S)) c25 rfl) ?_
      refine gv_n hq 5 (S' := (1008, [some (.ref 2001), some (.ref 0), some (.ref 116), some (.int l3)], [.int (l3 + (nI 1)), .ref 2001, .ref 0], D, E)) rfl ?_
      refine gv_ix hq rfl rfl h 1009 rfl (fun h => ?_)
      refine gv_n hq 4 (S' := (1013, [some (.ref 2001), some (.ref 0), some (.ref 116), some (.int l3)], [.int (l3 + (nI 2)), .ref 2001, .int (X.2 ((l3 + (nI 1))).toNatClampNeg), .ref 0], D, E)) rfl ?_
      refine gv_ix hq rfl rfl h 1014 rfl (fun h => ?_)
      obtain ⟨r47, h1, h⟩ := Option.bind_eq_some_iff.mp h
      refine gv_d hq rfl rfl rfl rfl rfl (gv_dd (by omega) (t_X_given X F (d - 1) (by omega) E _ _ _ _ h1)) (S' := (1017, [some (.ref 2001), some (.ref 0), some (.ref 116), some (.int l3)], [.int r47.1], r47.2, E)) rfl ?_
      refine gv_n hq 5 (S' := (1022, [some (.ref 2001), some (.ref 0), some (.ref 116), some (.int l3)], [.int (l3 + (nI 1)), .ref 2001, .ref 116, .int r47.1], r47.2, E)) rfl ?_
      refine gv_ix hq rfl rfl h 1023 rfl (fun h => ?_)
      refine gv_n hq 4 (S' := (1027, [some (.ref 2001), some (.ref 0), some (.ref 116), some (.int l3)], [.int (l3 + (nI 2)), .ref 2001, .int (X.2 ((l3 + (nI 1))).toNatClampNeg), .ref 116, .int r47.1], r47.2, E)) rfl ?_
      refine gv_ix hq rfl rfl h 1028 rfl (fun h => ?_)
      obtain ⟨r48, h1, h⟩ := Option.bind_eq_some_iff.mp h
      refine gv_d hq rfl rfl rfl rfl rfl (gv_dd (by omega) (t_M_given X F (d - 1) (by omega) E _ _ _ _ h1)) (S' := (1031, [some (.ref 2001), some (.ref 0), some (.ref 116), some (.int l3)], [.int r48.1, .int r47.1], r48.2, E)) rfl ?_
      refine gv_b hq rfl h 2168 1034 rfl rfl rfl (fun h => ?_) (fun h => ?_)
      · refine gv_n hq 2 (S' := (18, [some (.ref 2001), some (.ref 0), some (.ref 116), some (.int (l3 + (nI 6)))], [], r48.2, E)) rfl ?_
        exact gv_w (K18 _ _ _ _ h) (And.intro rfl (And.intro rfl (And.intro rfl (And.intro rfl trivial))))
      · refine gv_n hq 1 (S' := (1035, [some (.ref 2001), some (.ref 0), some (.ref 116), some (.int l3)], [.int (nI 0)], r48.2, E)) rfl ?_
        cases h
        exact ev_ret hq rfl rfl ⟨rfl, rfl, rfl⟩
    refine gv_if h (fun c26 h => ?_) (fun c26 h => ?_)
    · refine ev_ins hq rfl (S' := (1036, [some (.ref 2001), some (.ref 0), some (.ref 116), some (.int l3)], [], D, E)) (gv_sw (fun z => ((33, [some (.ref 2001), some (.ref 0), some (.ref 116), some (.int l3)], .int z :: [], D, E) : mx_S)) c26 rfl) ?_
      refine gv_n hq 5 (S' := (1041, [some (.ref 2001), some (.ref 0), some (.ref 116), some (.int l3)], [.int (l3 + (nI 1)), .ref 2001, .ref 0], D, E)) rfl ?_
      refine gv_ix hq rfl rfl h 1042 rfl (fun h => ?_)
      obtain ⟨r49, h1, h⟩ := Option.bind_eq_some_iff.mp h
      refine gv_d hq rfl rfl rfl rfl rfl (gv_dd (by omega) (t_X_gifts X F (d - 1) (by omega) E _ _ _ h1)) (S' := (1045, [some (.ref 2001), some (.ref 0), some (.ref 116), some (.int l3)], [.int r49.1], r49.2, E)) rfl ?_
      refine gv_n hq 5 (S' := (1050, [some (.ref 2001), some (.ref 0), some (.ref 116), some (.int l3)], [.int (l3 + (nI 1)), .ref 2001, .ref 116, .int r49.1], r49.2, E)) rfl ?_
      refine gv_ix hq rfl rfl h 1051 rfl (fun h => ?_)
      obtain ⟨r50, h1, h⟩ := Option.bind_eq_some_iff.mp h
      refine gv_d hq rfl rfl rfl rfl rfl (gv_dd (by omega) (t_M_gifts X F (d - 1) (by omega) E _ _ _ h1)) (S' := (1054, [some (.ref 2001), some (.ref 0), some (.ref 116), some (.int l3)], [.int r50.1, .int r49.1], r50.2, E)) rfl ?_
      refine gv_b hq rfl h 2168 1057 rfl rfl rfl (fun h => ?_) (fun h => ?_)
      · refine gv_n hq 2 (S' := (18, [some (.ref 2001), some (.ref 0), some (.ref 116), some (.int (l3 + (nI 6)))], [], r50.2, E)) rfl ?_
        exact gv_w (K18 _ _ _ _ h) (And.intro rfl (And.intro rfl (And.intro rfl (And.intro rfl trivial))))
      · refine gv_n hq 1 (S' := (1058, [some (.ref 2001), some (.ref 0), some (.ref 116), some (.int l3)], [.int (nI 0)], r50.2, E)) rfl ?_
        cases h
        exact ev_ret hq rfl rfl ⟨rfl, rfl, rfl⟩
    refine gv_if h (fun c27 h => ?_) (fun c27 h => ?_)
    · refine ev_ins hq rfl (S' := (1059, [some (.ref 2001), some (.ref 0), some (.ref 116), some (.int l3)], [], D, E)) (gv_sw (fun z => ((33, [some (.ref 2001), some (.ref 0), some (.ref 116), some (.int l3)], .int z :: [], D, E) : mx_S)) c27 rfl) ?_
      refine gv_n hq 5 (S' := (1064, [some (.ref 2001), some (.ref 0), some (.ref 116), some (.int l3)], [.int (l3 + (nI 1)), .ref 2001, .ref 0], D, E)) rfl ?_
      refine gv_ix hq rfl rfl h 1065 rfl (fun h => ?_)
      obtain ⟨r51, h1, h⟩ := Option.bind_eq_some_iff.mp h
      refine gv_d hq rfl rfl rfl rfl rfl (gv_dd (by omega) (t_X_hats X F (d - 1) (by omega) E _ _ _ h1)) (S' := (1068, [some (.ref 2001), some (.ref 0), some (.ref 116), some (.int l3)], [.int r51.1], r51.2, E)) rfl ?_
      refine gv_n hq 5 (S' := (1073, [some (.ref 2001), some (.ref 0), some (.ref 116), some (.int l3)], [.int (l3 + (nI 1)), .ref 2001, .ref 116, .int r51.1], r51.2, E)) rfl ?_
      refine gv_ix hq rfl rfl h 1074 rfl (fun h => ?_)
      obtain ⟨r52, h1, h⟩ := Option.bind_eq_some_iff.mp h
      refine gv_d hq rfl rfl rfl rfl rfl (gv_dd (by omega) (t_M_hats X F (d - 1) (by omega) E _ _ _ h1)) (S' := (1077, [some (.ref 2001), some (.ref 0), some (.ref 116), some (.int l3)], [.int r52.1, .int r51.1], r52.2, E)) rfl ?_
      refine gv_b hq rfl h 2168 1080 rfl rfl rfl (fun h => ?_) (fun h => ?_)
      · refine gv_n hq 2 (S' := (18, [some (.ref 2001), some (.ref 0), some (.ref 116), some (.int (l3 + (nI 6)))], [], r52.2, E)) rfl ?_
        exact gv_w (K18 _ _ _ _ h) (And.intro rfl (And.intro rfl (And.intro rfl (And.intro rfl trivial))))
      · refine gv_n hq 1 (S' := (1081, [some (.ref 2001), some (.ref 0), some (.ref 116), some (.int l3)], [.int (nI 0)], r52.2, E)) rfl ?_
        cases h
        exact ev_ret hq rfl rfl ⟨rfl, rfl, rfl⟩
    refine gv_if h (fun c28 h => ?_) (fun c28 h => ?_)
    · refine ev_ins hq rfl (S' := (1082, [some (.ref 2001), some (.ref 0), some (.ref 116), some (.int l3)], [], D, E)) (gv_sw (fun z => ((33, [some (.ref 2001), some (.ref 0), some (.ref 116), some (.int l3)], .int z :: [], D, E) : mx_S)) c28 rfl) ?_
      refine gv_n hq 5 (S' := (1087, [some (.ref 2001), some (.ref 0), some (.ref 116), some (.int l3)], [.int (l3 + (nI 1)), .ref 2001, .ref 0], D, E)) rfl ?_
      refine gv_ix hq rfl rfl h 1088 rfl (fun h => ?_)
      refine gv_n hq 4 (S' := (1092, [some (.ref 2001), some (.ref 0), some (.ref 116), some (.int l3)], [.int (l3 + (nI 2)), .ref 2001, .int (X.2 ((l3 + (nI 1))).toNatClampNeg), .ref 0], D, E)) rfl ?_
      refine gv_ix hq rfl rfl h 1093 rfl (fun h => ?_)
      obtain ⟨r53, h1, h⟩ := Option.bind_eq_some_iff.mp h
      refine gv_d hq rfl rfl rfl rfl rfl (gv_dd (by omega) (t_X_handed X F (d - 1) (by omega) E _ _ _ _ h1)) (S' := (1096, [some (.ref 2001), some (.ref 0), some (.ref 116), some (.int l3)], [.int r53.1], r53.2, E)) rfl ?_
      refine gv_n hq 5 (S' := (1101, [some (.ref 2001), some (.ref 0), some (.ref 116), some (.int l3)], [.int (l3 + (nI 1)), .ref 2001, .ref 116, .int r53.1], r53.2, E)) rfl ?_
      refine gv_ix hq rfl rfl h 1102 rfl (fun h => ?_)
      refine gv_n hq 4 (S' := (1106, [some (.ref 2001), some (.ref 0), some (.ref 116), some (.int l3)], [.int (l3 + (nI 2)), .ref 2001, .int (X.2 ((l3 + (nI 1))).toNatClampNeg), .ref 116, .int r53.1], r53.2, E)) rfl ?_
      refine gv_ix hq rfl rfl h 1107 rfl (fun h => ?_)
      obtain ⟨r54, h1, h⟩ := Option.bind_eq_some_iff.mp h
      refine gv_d hq rfl rfl rfl rfl rfl (gv_dd (by omega) (t_M_handed X F (d - 1) (by omega) E _ _ _ _ h1)) (S' := (1110, [some (.ref 2001), some (.ref 0), some (.ref 116), some (.int l3)], [.int r54.1, .int r53.1], r54.2, E)) rfl ?_
      refine gv_b hq rfl h 2168 1113 rfl rfl rfl (fun h => ?_) (fun h => ?_)
      · refine gv_n hq 2 (S' := (18, [some (.ref 2001), some (.ref 0), some (.ref 116), some (.int (l3 + (nI 6)))], [], r54.2, E)) rfl ?_
        exact gv_w (K18 _ _ _ _ h) (And.intro rfl (And.intro rfl (And.intro rfl (And.intro rfl trivial))))
      · refine gv_n hq 1 (S' := (1114, [some (.ref 2001), some (.ref 0), some (.ref 116), some (.int l3)], [.int (nI 0)], r54.2, E)) rfl ?_
        cases h
        exact ev_ret hq rfl rfl ⟨rfl, rfl, rfl⟩
    refine gv_if h (fun c29 h => ?_) (fun c29 h => ?_)
    · refine ev_ins hq rfl (S' := (1115, [some (.ref 2001), some (.ref 0), some (.ref 116), some (.int l3)], [], D, E)) (gv_sw (fun z => ((33, [some (.ref 2001), some (.ref 0), some (.ref 116), some (.int l3)], .int z :: [], D, E) : mx_S)) c29 rfl) ?_
      refine gv_n hq 5 (S' := (1120, [some (.ref 2001), some (.ref 0), some (.ref 116), some (.int l3)], [.int (l3 + (nI 1)), .ref 2001, .ref 0], D, E)) rfl ?_
      refine gv_ix hq rfl rfl h 1121 rfl (fun h => ?_)
      refine gv_n hq 4 (S' := (1125, [some (.ref 2001), some (.ref 0), some (.ref 116), some (.int l3)], [.int (l3 + (nI 2)), .ref 2001, .int (X.2 ((l3 + (nI 1))).toNatClampNeg), .ref 0], D, E)) rfl ?_
      refine gv_ix hq rfl rfl h 1126 rfl (fun h => ?_)
      obtain ⟨r55, h1, h⟩ := Option.bind_eq_some_iff.mp h
      refine gv_d hq rfl rfl rfl rfl rfl (gv_dd (by omega) (t_X_rings X F (d - 1) (by omega) E _ _ _ _ h1)) (S' := (1129, [some (.ref 2001), some (.ref 0), some (.ref 116), some (.int l3)], [.int r55.1], r55.2, E)) rfl ?_
      refine gv_n hq 5 (S' := (1134, [some (.ref 2001), some (.ref 0), some (.ref 116), some (.int l3)], [.int (l3 + (nI 1)), .ref 2001, .ref 116, .int r55.1], r55.2, E)) rfl ?_
      refine gv_ix hq rfl rfl h 1135 rfl (fun h => ?_)
      refine gv_n hq 4 (S' := (1139, [some (.ref 2001), some (.ref 0), some (.ref 116), some (.int l3)], [.int (l3 + (nI 2)), .ref 2001, .int (X.2 ((l3 + (nI 1))).toNatClampNeg), .ref 116, .int r55.1], r55.2, E)) rfl ?_
      refine gv_ix hq rfl rfl h 1140 rfl (fun h => ?_)
      obtain ⟨r56, h1, h⟩ := Option.bind_eq_some_iff.mp h
      refine gv_d hq rfl rfl rfl rfl rfl (gv_dd (by omega) (t_M_rings X F (d - 1) (by omega) E _ _ _ _ h1)) (S' := (1143, [some (.ref 2001), some (.ref 0), some (.ref 116), some (.int l3)], [.int r56.1, .int r55.1], r56.2, E)) rfl ?_
      refine gv_b hq rfl h 2168 1146 rfl rfl rfl (fun h => ?_) (fun h => ?_)
      · refine gv_n hq 2 (S' := (18, [some (.ref 2001), some (.ref 0), some (.ref 116), some (.int (l3 + (nI 6)))], [], r56.2, E)) rfl ?_
        exact gv_w (K18 _ _ _ _ h) (And.intro rfl (And.intro rfl (And.intro rfl (And.intro rfl trivial))))
      · refine gv_n hq 1 (S' := (1147, [some (.ref 2001), some (.ref 0), some (.ref 116), some (.int l3)], [.int (nI 0)], r56.2, E)) rfl ?_
        cases h
        exact ev_ret hq rfl rfl ⟨rfl, rfl, rfl⟩
    refine gv_if h (fun c30 h => ?_) (fun c30 h => ?_)
    · refine ev_ins hq rfl (S' := (1148, [some (.ref 2001), some (.ref 0), some (.ref 116), some (.int l3)], [], D, E)) (gv_sw (fun z => ((33, [some (.ref 2001), some (.ref 0), some (.ref 116), some (.int l3)], .int z :: [], D, E) : mx_S)) c30 rfl) ?_
      refine gv_n hq 1 (S' := (1149, [some (.ref 2001), some (.ref 0), some (.ref 116), some (.int l3)], [.ref 0], D, E)) rfl ?_
      obtain ⟨r57, h1, h⟩ := Option.bind_eq_some_iff.mp h
      refine gv_d hq rfl rfl rfl rfl rfl (gv_dd (by omega) (t_X_bare X F (d - 1) (by omega) D E _ h1)) (S' := (1152, [some (.ref 2001), some (.ref 0), some (.ref 116), some (.int l3)], [.int r57], D, E)) rfl ?_
      refine gv_n hq 1 (S' := (1153, [some (.ref 2001), some (.ref 0), some (.ref 116), some (.int l3)], [.ref 116, .int r57], D, E)) rfl ?_
      obtain ⟨r58, h1, h⟩ := Option.bind_eq_some_iff.mp h
      refine gv_d hq rfl rfl rfl rfl rfl (gv_dd (by omega) (t_M_bare X F (d - 1) (by omega) D E _ h1)) (S' := (1156, [some (.ref 2001), some (.ref 0), some (.ref 116), some (.int l3)], [.int r58, .int r57], D, E)) rfl ?_
      refine gv_b hq rfl h 2168 1159 rfl rfl rfl (fun h => ?_) (fun h => ?_)
      · refine gv_n hq 2 (S' := (18, [some (.ref 2001), some (.ref 0), some (.ref 116), some (.int (l3 + (nI 6)))], [], D, E)) rfl ?_
        exact gv_w (K18 _ _ _ _ h) (And.intro rfl (And.intro rfl (And.intro rfl (And.intro rfl trivial))))
      · refine gv_n hq 1 (S' := (1160, [some (.ref 2001), some (.ref 0), some (.ref 116), some (.int l3)], [.int (nI 0)], D, E)) rfl ?_
        cases h
        exact ev_ret hq rfl rfl ⟨rfl, rfl, rfl⟩
    refine gv_if h (fun c31 h => ?_) (fun c31 h => ?_)
    · refine ev_ins hq rfl (S' := (1161, [some (.ref 2001), some (.ref 0), some (.ref 116), some (.int l3)], [], D, E)) (gv_sw (fun z => ((33, [some (.ref 2001), some (.ref 0), some (.ref 116), some (.int l3)], .int z :: [], D, E) : mx_S)) c31 rfl) ?_
      refine gv_n hq 5 (S' := (1166, [some (.ref 2001), some (.ref 0), some (.ref 116), some (.int l3)], [.int (l3 + (nI 1)), .ref 2001, .ref 0], D, E)) rfl ?_
      refine gv_ix hq rfl rfl h 1167 rfl (fun h => ?_)
      obtain ⟨r59, h1, h⟩ := Option.bind_eq_some_iff.mp h
      refine gv_d hq rfl rfl rfl rfl rfl (gv_dd (by omega) (t_X_kinds X F (d - 1) (by omega) E _ _ _ h1)) (S' := (1170, [some (.ref 2001), some (.ref 0), some (.ref 116), some (.int l3)], [.int r59.1], r59.2, E)) rfl ?_
      refine gv_n hq 5 (S' := (1175, [some (.ref 2001), some (.ref 0), some (.ref 116), some (.int l3)], [.int (l3 + (nI 1)), .ref 2001, .ref 116, .int r59.1], r59.2, E)) rfl ?_
      refine gv_ix hq rfl rfl h 1176 rfl (fun h => ?_)
      obtain ⟨r60, h1, h⟩ := Option.bind_eq_some_iff.mp h
      refine gv_d hq rfl rfl rfl rfl rfl (gv_dd (by omega) (t_M_kinds X F (d - 1) (by omega) E _ _ _ h1)) (S' := (1179, [some (.ref 2001), some (.ref 0), some (.ref 116), some (.int l3)], [.int r60.1, .int r59.1], r60.2, E)) rfl ?_
      refine gv_b hq rfl h 2168 1182 rfl rfl rfl (fun h => ?_) (fun h => ?_)
      · refine gv_n hq 2 (S' := (18, [some (.ref 2001), some (.ref 0), some (.ref 116), some (.int (l3 + (nI 6)))], [], r60.2, E)) rfl ?_
        exact gv_w (K18 _ _ _ _ h) (And.intro rfl (And.intro rfl (And.intro rfl (And.intro rfl trivial))))
      · refine gv_n hq 1 (S' := (1183, [some (.ref 2001), some (.ref 0), some (.ref 116), some (.int l3)], [.int (nI 0)], r60.2, E)) rfl ?_
        cases h
        exact ev_ret hq rfl rfl ⟨rfl, rfl, rfl⟩
    refine gv_if h (fun c32 h => ?_) (fun c32 h => ?_)
    · refine ev_ins hq rfl (S' := (1184, [some (.ref 2001), some (.ref 0), some (.ref 116), some (.int l3)], [], D, E)) (gv_sw (fun z => ((33, [some (.ref 2001), some (.ref 0), some (.ref 116), some (.int l3)], .int z :: [], D, E) : mx_S)) c32 rfl) ?_
      refine gv_n hq 5 (S' := (1189, [some (.ref 2001), some (.ref 0), some (.ref 116), some (.int l3)], [.int (l3 + (nI 1)), .ref 2001, .ref 0], D, E)) rfl ?_
      refine gv_ix hq rfl rfl h 1190 rfl (fun h => ?_)
      refine gv_n hq 4 (S' := (1194, [some (.ref 2001), some (.ref 0), some (.ref 116), some (.int l3)], [.int (l3 + (nI 2)), .ref 2001, .int (X.2 ((l3 + (nI 1))).toNatClampNeg), .ref 0], D, E)) rfl ?_
      refine gv_ix hq rfl rfl h 1195 rfl (fun h => ?_)
      obtain ⟨r61, h1, h⟩ := Option.bind_eq_some_iff.mp h
      refine gv_d hq rfl rfl rfl rfl rfl (gv_dd (by omega) (t_X_wide X F (d - 1) (by omega) E _ _ _ _ h1)) (S' := (1198, [some (.ref 2001), some (.ref 0), some (.ref 116), some (.int l3)], [.int r61.1], r61.2, E)) rfl ?_
      refine gv_n hq 5 (S' := (1203, [some (.ref 2001), some (.ref 0), some (.ref 116), some (.int l3)], [.int (l3 + (nI 1)), .ref 2001, .ref 116, .int r61.1], r61.2, E)) rfl ?_
      refine gv_ix hq rfl rfl h 1204 rfl (fun h => ?_)
      refine gv_n hq 4 (S' := (1208, [some (.ref 2001), some (.ref 0), some (.ref 116), some (.int l3)], [.int (l3 + (nI 2)), .ref 2001, .int (X.2 ((l3 + (nI 1))).toNatClampNeg), .ref 116, .int r61.1], r61.2, E)) rfl ?_
      refine gv_ix hq rfl rfl h 1209 rfl (fun h => ?_)
      obtain ⟨r62, h1, h⟩ := Option.bind_eq_some_iff.mp h
      refine gv_d hq rfl rfl rfl rfl rfl (gv_dd (by omega) (t_M_wide X F (d - 1) (by omega) E _ _ _ _ h1)) (S' := (1212, [some (.ref 2001), some (.ref 0), some (.ref 116), some (.int l3)], [.int r62.1, .int r61.1], r62.2, E)) rfl ?_
      refine gv_b hq rfl h 2168 1215 rfl rfl rfl (fun h => ?_) (fun h => ?_)
      · refine gv_n hq 2 (S' := (18, [some (.ref 2001), some (.ref 0), some (.ref 116), some (.int (l3 + (nI 6)))], [], r62.2, E)) rfl ?_
        exact gv_w (K18 _ _ _ _ h) (And.intro rfl (And.intro rfl (And.intro rfl (And.intro rfl trivial))))
      · refine gv_n hq 1 (S' := (1216, [some (.ref 2001), some (.ref 0), some (.ref 116), some (.int l3)], [.int (nI 0)], r62.2, E)) rfl ?_
        cases h
        exact ev_ret hq rfl rfl ⟨rfl, rfl, rfl⟩
    refine gv_if h (fun c33 h => ?_) (fun c33 h => ?_)
    · refine ev_ins hq rfl (S' := (1217, [some (.ref 2001), some (.ref 0), some (.ref 116), some (.int l3)], [], D, E)) (gv_sw (fun z => ((33, [some (.ref 2001), some (.ref 0), some (.ref 116), some (.int l3)], .int z :: [], D, E) : mx_S)) c33 rfl) ?_
      refine gv_n hq 5 (S' := (1222, [some (.ref 2001), some (.ref 0), some (.ref 116), some (.int l3)], [.int (l3 + (nI 1)), .ref 2001, .ref 0], D, E)) rfl ?_
      refine gv_ix hq rfl rfl h 1223 rfl (fun h => ?_)
      obtain ⟨r63, h1, h⟩ := Option.bind_eq_some_iff.mp h
      refine gv_d hq rfl rfl rfl rfl rfl (gv_dd (by omega) (t_X_away X F (d - 1) (by omega) E _ _ _ h1)) (S' := (1226, [some (.ref 2001), some (.ref 0), some (.ref 116), some (.int l3)], [.int r63.1], r63.2, E)) rfl ?_
      refine gv_n hq 5 (S' := (1231, [some (.ref 2001), some (.ref 0), some (.ref 116), some (.int l3)], [.int (l3 + (nI 1)), .ref 2001, .ref 116, .int r63.1], r63.2, E)) rfl ?_
      refine gv_ix hq rfl rfl h 1232 rfl (fun h => ?_)
      obtain ⟨r64, h1, h⟩ := Option.bind_eq_some_iff.mp h
      refine gv_d hq rfl rfl rfl rfl rfl (gv_dd (by omega) (t_M_away X F (d - 1) (by omega) E _ _ _ h1)) (S' := (1235, [some (.ref 2001), some (.ref 0), some (.ref 116), some (.int l3)], [.int r64.1, .int r63.1], r64.2, E)) rfl ?_
      refine gv_b hq rfl h 2168 1238 rfl rfl rfl (fun h => ?_) (fun h => ?_)
      · refine gv_n hq 2 (S' := (18, [some (.ref 2001), some (.ref 0), some (.ref 116), some (.int (l3 + (nI 6)))], [], r64.2, E)) rfl ?_
        exact gv_w (K18 _ _ _ _ h) (And.intro rfl (And.intro rfl (And.intro rfl (And.intro rfl trivial))))
      · refine gv_n hq 1 (S' := (1239, [some (.ref 2001), some (.ref 0), some (.ref 116), some (.int l3)], [.int (nI 0)], r64.2, E)) rfl ?_
        cases h
        exact ev_ret hq rfl rfl ⟨rfl, rfl, rfl⟩
    refine gv_if h (fun c34 h => ?_) (fun c34 h => ?_)
    · refine ev_ins hq rfl (S' := (1240, [some (.ref 2001), some (.ref 0), some (.ref 116), some (.int l3)], [], D, E)) (gv_sw (fun z => ((33, [some (.ref 2001), some (.ref 0), some (.ref 116), some (.int l3)], .int z :: [], D, E) : mx_S)) c34 rfl) ?_
      refine gv_n hq 5 (S' := (1245, [some (.ref 2001), some (.ref 0), some (.ref 116), some (.int l3)], [.int (l3 + (nI 1)), .ref 2001, .ref 0], D, E)) rfl ?_
      refine gv_ix hq rfl rfl h 1246 rfl (fun h => ?_)
      obtain ⟨r65, h1, h⟩ := Option.bind_eq_some_iff.mp h
      refine gv_d hq rfl rfl rfl rfl rfl (gv_dd (by omega) (t_X_stay X F (d - 1) (by omega) E _ _ _ h1)) (S' := (1249, [some (.ref 2001), some (.ref 0), some (.ref 116), some (.int l3)], [.int r65.1], r65.2, E)) rfl ?_
      refine gv_n hq 5 (S' := (1254, [some (.ref 2001), some (.ref 0), some (.ref 116), some (.int l3)], [.int (l3 + (nI 1)), .ref 2001, .ref 116, .int r65.1], r65.2, E)) rfl ?_
      refine gv_ix hq rfl rfl h 1255 rfl (fun h => ?_)
      obtain ⟨r66, h1, h⟩ := Option.bind_eq_some_iff.mp h
      refine gv_d hq rfl rfl rfl rfl rfl (gv_dd (by omega) (t_M_stay X F (d - 1) (by omega) E _ _ _ h1)) (S' := (1258, [some (.ref 2001), some (.ref 0), some (.ref 116), some (.int l3)], [.int r66.1, .int r65.1], r66.2, E)) rfl ?_
      refine gv_b hq rfl h 2168 1261 rfl rfl rfl (fun h => ?_) (fun h => ?_)
      · refine gv_n hq 2 (S' := (18, [some (.ref 2001), some (.ref 0), some (.ref 116), some (.int (l3 + (nI 6)))], [], r66.2, E)) rfl ?_
        exact gv_w (K18 _ _ _ _ h) (And.intro rfl (And.intro rfl (And.intro rfl (And.intro rfl trivial))))
      · refine gv_n hq 1 (S' := (1262, [some (.ref 2001), some (.ref 0), some (.ref 116), some (.int l3)], [.int (nI 0)], r66.2, E)) rfl ?_
        cases h
        exact ev_ret hq rfl rfl ⟨rfl, rfl, rfl⟩
    refine gv_if h (fun c35 h => ?_) (fun c35 h => ?_)
    · refine ev_ins hq rfl (S' := (1263, [some (.ref 2001), some (.ref 0), some (.ref 116), some (.int l3)], [], D, E)) (gv_sw (fun z => ((33, [some (.ref 2001), some (.ref 0), some (.ref 116), some (.int l3)], .int z :: [], D, E) : mx_S)) c35 rfl) ?_
      refine gv_n hq 5 (S' := (1268, [some (.ref 2001), some (.ref 0), some (.ref 116), some (.int l3)], [.int (l3 + (nI 1)), .ref 2001, .ref 0], D, E)) rfl ?_
      refine gv_ix hq rfl rfl h 1269 rfl (fun h => ?_)
      refine gv_n hq 4 (S' := (1273, [some (.ref 2001), some (.ref 0), some (.ref 116), some (.int l3)], [.int (l3 + (nI 2)), .ref 2001, .int (X.2 ((l3 + (nI 1))).toNatClampNeg), .ref 0], D, E)) rfl ?_
      refine gv_ix hq rfl rfl h 1274 rfl (fun h => ?_)
      obtain ⟨r67, h1, h⟩ := Option.bind_eq_some_iff.mp h
      refine gv_d hq rfl rfl rfl rfl rfl (gv_dd (by omega) (t_X_stilts X F (d - 1) (by omega) E _ _ _ _ h1)) (S' := (1277, [some (.ref 2001), some (.ref 0), some (.ref 116), some (.int l3)], [.int r67.1], r67.2, E)) rfl ?_
      refine gv_n hq 5 (S' := (1282, [some (.ref 2001), some (.ref 0), some (.ref 116), some (.int l3)], [.int (l3 + (nI 1)), .ref 2001, .ref 116, .int r67.1], r67.2, E)) rfl ?_
      refine gv_ix hq rfl rfl h 1283 rfl (fun h => ?_)
      refine gv_n hq 4 (S' := (1287, [some (.ref 2001), some (.ref 0), some (.ref 116), some (.int l3)], [.int (l3 + (nI 2)), .ref 2001, .int (X.2 ((l3 + (nI 1))).toNatClampNeg), .ref 116, .int r67.1], r67.2, E)) rfl ?_
      refine gv_ix hq rfl rfl h 1288 rfl (fun h => ?_)
      obtain ⟨r68, h1, h⟩ := Option.bind_eq_some_iff.mp h
      refine gv_d hq rfl rfl rfl rfl rfl (gv_dd (by omega) (t_M_stilts X F (d - 1) (by omega) E _ _ _ _ h1)) (S' := (1291, [some (.ref 2001), some (.ref 0), some (.ref 116), some (.int l3)], [.int r68.1, .int r67.1], r68.2, E)) rfl ?_
      refine gv_b hq rfl h 2168 1294 rfl rfl rfl (fun h => ?_) (fun h => ?_)
      · refine gv_n hq 2 (S' := (18, [some (.ref 2001), some (.ref 0), some (.ref 116), some (.int (l3 + (nI 6)))], [], r68.2, E)) rfl ?_
        exact gv_w (K18 _ _ _ _ h) (And.intro rfl (And.intro rfl (And.intro rfl (And.intro rfl trivial))))
      · refine gv_n hq 1 (S' := (1295, [some (.ref 2001), some (.ref 0), some (.ref 116), some (.int l3)], [.int (nI 0)], r68.2, E)) rfl ?_
        cases h
        exact ev_ret hq rfl rfl ⟨rfl, rfl, rfl⟩
    refine gv_if h (fun c36 h => ?_) (fun c36 h => ?_)
    · refine ev_ins hq rfl (S' := (1296, [some (.ref 2001), some (.ref 0), some (.ref 116), some (.int l3)], [], D, E)) (gv_sw (fun z => ((33, [some (.ref 2001), some (.ref 0), some (.ref 116), some (.int l3)], .int z :: [], D, E) : mx_S)) c36 rfl) ?_
      refine gv_n hq 5 (S' := (1301, [some (.ref 2001), some (.ref 0), some (.ref 116), some (.int l3)], [.int (l3 + (nI 1)), .ref 2001, .ref 0], D, E)) rfl ?_
      refine gv_ix hq rfl rfl h 1302 rfl (fun h => ?_)
      refine gv_n hq 4 (S' := (1306, [some (.ref 2001), some (.ref 0), some (.ref 116), some (.int l3)], [.int (l3 + (nI 2)), .ref 2001, .int (X.2 ((l3 + (nI 1))).toNatClampNeg), .ref 0], D, E)) rfl ?_
      refine gv_ix hq rfl rfl h 1307 rfl (fun h => ?_)
      obtain ⟨r69, h1, h⟩ := Option.bind_eq_some_iff.mp h
      refine gv_d hq rfl rfl rfl rfl rfl (gv_dd (by omega) (t_X_lengths X F (d - 1) (by omega) E _ _ _ _ h1)) (S' := (1310, [some (.ref 2001), some (.ref 0), some (.ref 116), some (.int l3)], [.int r69.1], r69.2, E)) rfl ?_
      refine gv_n hq 5 (S' := (1315, [some (.ref 2001), some (.ref 0), some (.ref 116), some (.int l3)], [.int (l3 + (nI 1)), .ref 2001, .ref 116, .int r69.1], r69.2, E)) rfl ?_
      refine gv_ix hq rfl rfl h 1316 rfl (fun h => ?_)
      refine gv_n hq 4 (S' := (1320, [some (.ref 2001), some (.ref 0), some (.ref 116), some (.int l3)], [.int (l3 + (nI 2)), .ref 2001, .int (X.2 ((l3 + (nI 1))).toNatClampNeg), .ref 116, .int r69.1], r69.2, E)) rfl ?_
      refine gv_ix hq rfl rfl h 1321 rfl (fun h => ?_)
      obtain ⟨r70, h1, h⟩ := Option.bind_eq_some_iff.mp h
      refine gv_d hq rfl rfl rfl rfl rfl (gv_dd (by omega) (t_M_lengths X F (d - 1) (by omega) E _ _ _ _ h1)) (S' := (1324, [some (.ref 2001), some (.ref 0), some (.ref 116), some (.int l3)], [.int r70.1, .int r69.1], r70.2, E)) rfl ?_
      refine gv_b hq rfl h 2168 1327 rfl rfl rfl (fun h => ?_) (fun h => ?_)
      · refine gv_n hq 2 (S' := (18, [some (.ref 2001), some (.ref 0), some (.ref 116), some (.int (l3 + (nI 6)))], [], r70.2, E)) rfl ?_
        exact gv_w (K18 _ _ _ _ h) (And.intro rfl (And.intro rfl (And.intro rfl (And.intro rfl trivial))))
      · refine gv_n hq 1 (S' := (1328, [some (.ref 2001), some (.ref 0), some (.ref 116), some (.int l3)], [.int (nI 0)], r70.2, E)) rfl ?_
        cases h
        exact ev_ret hq rfl rfl ⟨rfl, rfl, rfl⟩
    refine gv_if h (fun c37 h => ?_) (fun c37 h => ?_)
    · refine ev_ins hq rfl (S' := (1329, [some (.ref 2001), some (.ref 0), some (.ref 116), some (.int l3)], [], D, E)) (gv_sw (fun z => ((33, [some (.ref 2001), some (.ref 0), some (.ref 116), some (.int l3)], .int z :: [], D, E) : mx_S)) c37 rfl) ?_
      refine gv_n hq 5 (S' := (1334, [some (.ref 2001), some (.ref 0), some (.ref 116), some (.int l3)], [.int (l3 + (nI 1)), .ref 2001, .ref 0], D, E)) rfl ?_
      refine gv_ix hq rfl rfl h 1335 rfl (fun h => ?_)
      refine gv_n hq 4 (S' := (1339, [some (.ref 2001), some (.ref 0), some (.ref 116), some (.int l3)], [.int (l3 + (nI 2)), .ref 2001, .int (X.2 ((l3 + (nI 1))).toNatClampNeg), .ref 0], D, E)) rfl ?_
      refine gv_ix hq rfl rfl h 1340 rfl (fun h => ?_)
      refine gv_n hq 4 (S' := (1344, [some (.ref 2001), some (.ref 0), some (.ref 116), some (.int l3)], [.int (l3 + (nI 3)), .ref 2001, .int (X.2 ((l3 + (nI 2))).toNatClampNeg), .int (X.2 ((l3 + (nI 1))).toNatClampNeg), .ref 0], D, E)) rfl ?_
      refine gv_ix hq rfl rfl h 1345 rfl (fun h => ?_)
      obtain ⟨r71, h1, h⟩ := Option.bind_eq_some_iff.mp h
      refine gv_d hq rfl rfl rfl rfl rfl (gv_dd (by omega) (t_X_hump X F (d - 1) (by omega) D E _ _ _ _ h1)) (S' := (1348, [some (.ref 2001), some (.ref 0), some (.ref 116), some (.int l3)], [.int r71], D, E)) rfl ?_
      refine gv_n hq 5 (S' := (1353, [some (.ref 2001), some (.ref 0), some (.ref 116), some (.int l3)], [.int (l3 + (nI 1)), .ref 2001, .ref 116, .int r71], D, E)) rfl ?_
      refine gv_ix hq rfl rfl h 1354 rfl (fun h => ?_)
      refine gv_n hq 4 (S' := (1358, [some (.ref 2001), some (.ref 0), some (.ref 116), some (.int l3)], [.int (l3 + (nI 2)), .ref 2001, .int (X.2 ((l3 + (nI 1))).toNatClampNeg), .ref 116, .int r71], D, E)) rfl ?_
      refine gv_ix hq rfl rfl h 1359 rfl (fun h => ?_)
      refine gv_n hq 4 (S' := (1363, [some (.ref 2001), some (.ref 0), some (.ref 116), some (.int l3)], [.int (l3 + (nI 3)), .ref 2001, .int (X.2 ((l3 + (nI 2))).toNatClampNeg), .int (X.2 ((l3 + (nI 1))).toNatClampNeg), .ref 116, .int r71], D, E)) rfl ?_
      refine gv_ix hq rfl rfl h 1364 rfl (fun h => ?_)
      obtain ⟨r72, h1, h⟩ := Option.bind_eq_some_iff.mp h
      refine gv_d hq rfl rfl rfl rfl rfl (gv_dd (by omega) (t_M_hump X F (d - 1) (by omega) E _ _ _ _ _ h1)) (S' := (1367, [some (.ref 2001), some (.ref 0), some (.ref 116), some (.int l3)], [.int r72.1, .int r71], r72.2, E)) rfl ?_
      refine gv_b hq rfl h 2168 1370 rfl rfl rfl (fun h => ?_) (fun h => ?_)
      · refine gv_n hq 2 (S' := (18, [some (.ref 2001), some (.ref 0), some (.ref 116), some (.int (l3 + (nI 6)))], [], r72.2, E)) rfl ?_
        exact gv_w (K18 _ _ _ _ h) (And.intro rfl (And.intro rfl (And.intro rfl (And.intro rfl trivial))))
      · refine gv_n hq 1 (S' := (1371, [some (.ref 2001), some (.ref 0), some (.ref 116), some (.int l3)], [.int (nI 0)], r72.2, E)) rfl ?_
        cases h
        exact ev_ret hq rfl rfl ⟨rfl, rfl, rfl⟩
    refine gv_if h (fun c38 h => ?_) (fun c38 h => ?_)
    · refine ev_ins hq rfl (S' := (1372, [some (.ref 2001), some (.ref 0), some (.ref 116), some (.int l3)], [], D, E)) (gv_sw (fun z => ((33, [some (.ref 2001), some (.ref 0), some (.ref 116), some (.int l3)], .int z :: [], D, E) : mx_S)) c38 rfl) ?_
      refine gv_n hq 5 (S' := (1377, [some (.ref 2001), some (.ref 0), some (.ref 116), some (.int l3)], [.int (l3 + (nI 1)), .ref 2001, .ref 0], D, E)) rfl ?_
      refine gv_ix hq rfl rfl h 1378 rfl (fun h => ?_)
      refine gv_n hq 4 (S' := (1382, [some (.ref 2001), some (.ref 0), some (.ref 116), some (.int l3)], [.int (l3 + (nI 2)), .ref 2001, .int (X.2 ((l3 + (nI 1))).toNatClampNeg), .ref 0], D, E)) rfl ?_
      refine gv_ix hq rfl rfl h 1383 rfl (fun h => ?_)
      obtain ⟨r73, h1, h⟩ := Option.bind_eq_some_iff.mp h
      refine gv_d hq rfl rfl rfl rfl rfl (gv_dd (by omega) (t_X_seat X F (d - 1) (by omega) E _ _ _ _ h1)) (S' := (1386, [some (.ref 2001), some (.ref 0), some (.ref 116), some (.int l3)], [.int r73.1], r73.2, E)) rfl ?_
      refine gv_n hq 5 (S' := (1391, [some (.ref 2001), some (.ref 0), some (.ref 116), some (.int l3)], [.int (l3 + (nI 1)), .ref 2001, .ref 116, .int r73.1], r73.2, E)) rfl ?_
      refine gv_ix hq rfl rfl h 1392 rfl (fun h => ?_)
      refine gv_n hq 4 (S' := (1396, [some (.ref 2001), some (.ref 0), some (.ref 116), some (.int l3)], [.int (l3 + (nI 2)), .ref 2001, .int (X.2 ((l3 + (nI 1))).toNatClampNeg), .ref 116, .int r73.1], r73.2, E)) rfl ?_
      refine gv_ix hq rfl rfl h 1397 rfl (fun h => ?_)
      obtain ⟨r74, h1, h⟩ := Option.bind_eq_some_iff.mp h
      refine gv_d hq rfl rfl rfl rfl rfl (gv_dd (by omega) (t_M_seat X F (d - 1) (by omega) E _ _ _ _ h1)) (S' := (1400, [some (.ref 2001), some (.ref 0), some (.ref 116), some (.int l3)], [.int r74.1, .int r73.1], r74.2, E)) rfl ?_
      refine gv_b hq rfl h 2168 1403 rfl rfl rfl (fun h => ?_) (fun h => ?_)
      · refine gv_n hq 2 (S' := (18, [some (.ref 2001), some (.ref 0), some (.ref 116), some (.int (l3 + (nI 6)))], [], r74.2, E)) rfl ?_
        exact gv_w (K18 _ _ _ _ h) (And.intro rfl (And.intro rfl (And.intro rfl (And.intro rfl trivial))))
      · refine gv_n hq 1 (S' := (1404, [some (.ref 2001), some (.ref 0), some (.ref 116), some (.int l3)], [.int (nI 0)], r74.2, E)) rfl ?_
        cases h
        exact ev_ret hq rfl rfl ⟨rfl, rfl, rfl⟩
    refine gv_if h (fun c39 h => ?_) (fun c39 h => ?_)
    · refine ev_ins hq rfl (S' := (1405, [some (.ref 2001), some (.ref 0), some (.ref 116), some (.int l3)], [], D, E)) (gv_sw (fun z => ((33, [some (.ref 2001), some (.ref 0), some (.ref 116), some (.int l3)], .int z :: [], D, E) : mx_S)) c39 rfl) ?_
      refine gv_n hq 5 (S' := (1410, [some (.ref 2001), some (.ref 0), some (.ref 116), some (.int l3)], [.int (l3 + (nI 1)), .ref 2001, .ref 0], D, E)) rfl ?_
      refine gv_ix hq rfl rfl h 1411 rfl (fun h => ?_)
      refine gv_n hq 4 (S' := (1415, [some (.ref 2001), some (.ref 0), some (.ref 116), some (.int l3)], [.int (l3 + (nI 2)), .ref 2001, .int (X.2 ((l3 + (nI 1))).toNatClampNeg), .ref 0], D, E)) rfl ?_
      refine gv_ix hq rfl rfl h 1416 rfl (fun h => ?_)
      refine gv_n hq 4 (S' := (1420, [some (.ref 2001), some (.ref 0), some (.ref 116), some (.int l3)], [.int (l3 + (nI 3)), .ref 2001, .int (X.2 ((l3 + (nI 2))).toNatClampNeg), .int (X.2 ((l3 + (nI 1))).toNatClampNeg), .ref 0], D, E)) rfl ?_
      refine gv_ix hq rfl rfl h 1421 rfl (fun h => ?_)
      obtain ⟨r75, h1, h⟩ := Option.bind_eq_some_iff.mp h
      refine gv_d hq rfl rfl rfl rfl rfl (gv_dd (by omega) (t_X_sits X F (d - 1) (by omega) E _ _ _ _ _ h1)) (S' := (1424, [some (.ref 2001), some (.ref 0), some (.ref 116), some (.int l3)], [.int r75.1], r75.2, E)) rfl ?_
      refine gv_n hq 5 (S' := (1429, [some (.ref 2001), some (.ref 0), some (.ref 116), some (.int l3)], [.int (l3 + (nI 1)), .ref 2001, .ref 116, .int r75.1], r75.2, E)) rfl ?_
      refine gv_ix hq rfl rfl h 1430 rfl (fun h => ?_)
      refine gv_n hq 4 (S' := (1434, [some (.ref 2001), some (.ref 0), some (.ref 116), some (.int l3)], [.int (l3 + (nI 2)), .ref 2001, .int (X.2 ((l3 + (nI 1))).toNatClampNeg), .ref 116, .int r75.1], r75.2, E)) rfl ?_
      refine gv_ix hq rfl rfl h 1435 rfl (fun h => ?_)
      refine gv_n hq 4 (S' := (1439, [some (.ref 2001), some (.ref 0), some (.ref 116), some (.int l3)], [.int (l3 + (nI 3)), .ref 2001, .int (X.2 ((l3 + (nI 2))).toNatClampNeg), .int (X.2 ((l3 + (nI 1))).toNatClampNeg), .ref 116, .int r75.1], r75.2, E)) rfl ?_
      refine gv_ix hq rfl rfl h 1440 rfl (fun h => ?_)
      obtain ⟨r76, h1, h⟩ := Option.bind_eq_some_iff.mp h
      refine gv_d hq rfl rfl rfl rfl rfl (gv_dd (by omega) (t_M_sits2 X F (d - 1) (by omega) E _ _ _ _ _ h1)) (S' := (1443, [some (.ref 2001), some (.ref 0), some (.ref 116), some (.int l3)], [.int r76.1, .int r75.1], r76.2, E)) rfl ?_
      refine gv_b hq rfl h 2168 1446 rfl rfl rfl (fun h => ?_) (fun h => ?_)
      · refine gv_n hq 2 (S' := (18, [some (.ref 2001), some (.ref 0), some (.ref 116), some (.int (l3 + (nI 6)))], [], r76.2, E)) rfl ?_
        exact gv_w (K18 _ _ _ _ h) (And.intro rfl (And.intro rfl (And.intro rfl (And.intro rfl trivial))))
      · refine gv_n hq 1 (S' := (1447, [some (.ref 2001), some (.ref 0), some (.ref 116), some (.int l3)], [.int (nI 0)], r76.2, E)) rfl ?_
        cases h
        exact ev_ret hq rfl rfl ⟨rfl, rfl, rfl⟩
    refine gv_if h (fun c40 h => ?_) (fun c40 h => ?_)
    · refine ev_ins hq rfl (S' := (1448, [some (.ref 2001), some (.ref 0), some (.ref 116), some (.int l3)], [], D, E)) (gv_sw (fun z => ((33, [some (.ref 2001), some (.ref 0), some (.ref 116), some (.int l3)], .int z :: [], D, E) : mx_S)) c40 rfl) ?_
      refine gv_n hq 5 (S' := (1453, [some (.ref 2001), some (.ref 0), some (.ref 116), some (.int l3)], [.int (l3 + (nI 1)), .ref 2001, .ref 0], D, E)) rfl ?_
      refine gv_ix hq rfl rfl h 1454 rfl (fun h => ?_)
      refine gv_n hq 4 (S' := (1458, [some (.ref 2001), some (.ref 0), some (.ref 116), some (.int l3)], [.int (l3 + (nI 2)), .ref 2001, .int (X.2 ((l3 + (nI 1))).toNatClampNeg), .ref 0], D, E)) rfl ?_
      refine gv_ix hq rfl rfl h 1459 rfl (fun h => ?_)
      obtain ⟨r77, h1, h⟩ := Option.bind_eq_some_iff.mp h
      refine gv_d hq rfl rfl rfl rfl rfl (gv_dd (by omega) (t_X_change X (d - 1) (by omega) E _ _ _ _ h1)) (S' := (1462, [some (.ref 2001), some (.ref 0), some (.ref 116), some (.int l3)], [.int r77.1], r77.2, E)) rfl ?_
      refine gv_n hq 5 (S' := (1467, [some (.ref 2001), some (.ref 0), some (.ref 116), some (.int l3)], [.int (l3 + (nI 1)), .ref 2001, .ref 116, .int r77.1], r77.2, E)) rfl ?_
      refine gv_ix hq rfl rfl h 1468 rfl (fun h => ?_)
      refine gv_n hq 4 (S' := (1472, [some (.ref 2001), some (.ref 0), some (.ref 116), some (.int l3)], [.int (l3 + (nI 2)), .ref 2001, .int (X.2 ((l3 + (nI 1))).toNatClampNeg), .ref 116, .int r77.1], r77.2, E)) rfl ?_
      refine gv_ix hq rfl rfl h 1473 rfl (fun h => ?_)
      obtain ⟨r78, h1, h⟩ := Option.bind_eq_some_iff.mp h
      refine gv_d hq rfl rfl rfl rfl rfl (gv_dd (by omega) (t_M_change X (d - 1) (by omega) E _ _ _ _ h1)) (S' := (1476, [some (.ref 2001), some (.ref 0), some (.ref 116), some (.int l3)], [.int r78.1, .int r77.1], r78.2, E)) rfl ?_
      refine gv_b hq rfl h 2168 1479 rfl rfl rfl (fun h => ?_) (fun h => ?_)
      · refine gv_n hq 2 (S' := (18, [some (.ref 2001), some (.ref 0), some (.ref 116), some (.int (l3 + (nI 6)))], [], r78.2, E)) rfl ?_
        exact gv_w (K18 _ _ _ _ h) (And.intro rfl (And.intro rfl (And.intro rfl (And.intro rfl trivial))))
      · refine gv_n hq 1 (S' := (1480, [some (.ref 2001), some (.ref 0), some (.ref 116), some (.int l3)], [.int (nI 0)], r78.2, E)) rfl ?_
        cases h
        exact ev_ret hq rfl rfl ⟨rfl, rfl, rfl⟩
    refine gv_if h (fun c41 h => ?_) (fun c41 h => ?_)
    · refine ev_ins hq rfl (S' := (1481, [some (.ref 2001), some (.ref 0), some (.ref 116), some (.int l3)], [], D, E)) (gv_sw (fun z => ((33, [some (.ref 2001), some (.ref 0), some (.ref 116), some (.int l3)], .int z :: [], D, E) : mx_S)) c41 rfl) ?_
      refine gv_n hq 5 (S' := (1486, [some (.ref 2001), some (.ref 0), some (.ref 116), some (.int l3)], [.int (l3 + (nI 1)), .ref 2001, .ref 0], D, E)) rfl ?_
      refine gv_ix hq rfl rfl h 1487 rfl (fun h => ?_)
      obtain ⟨r79, h1, h⟩ := Option.bind_eq_some_iff.mp h
      refine gv_d hq rfl rfl rfl rfl rfl (gv_dd (by omega) (t_X_pair X F (d - 1) (by omega) E _ _ _ h1)) (S' := (1490, [some (.ref 2001), some (.ref 0), some (.ref 116), some (.int l3)], [.int r79.1], r79.2, E)) rfl ?_
      refine gv_n hq 5 (S' := (1495, [some (.ref 2001), some (.ref 0), some (.ref 116), some (.int l3)], [.int (l3 + (nI 1)), .ref 2001, .ref 116, .int r79.1], r79.2, E)) rfl ?_
      refine gv_ix hq rfl rfl h 1496 rfl (fun h => ?_)
      obtain ⟨r80, h1, h⟩ := Option.bind_eq_some_iff.mp h
      refine gv_d hq rfl rfl rfl rfl rfl (gv_dd (by omega) (t_M_pair X F (d - 1) (by omega) E _ _ _ h1)) (S' := (1499, [some (.ref 2001), some (.ref 0), some (.ref 116), some (.int l3)], [.int r80.1, .int r79.1], r80.2, E)) rfl ?_
      refine gv_b hq rfl h 2168 1502 rfl rfl rfl (fun h => ?_) (fun h => ?_)
      · refine gv_n hq 2 (S' := (18, [some (.ref 2001), some (.ref 0), some (.ref 116), some (.int (l3 + (nI 6)))], [], r80.2, E)) rfl ?_
        exact gv_w (K18 _ _ _ _ h) (And.intro rfl (And.intro rfl (And.intro rfl (And.intro rfl trivial))))
      · refine gv_n hq 1 (S' := (1503, [some (.ref 2001), some (.ref 0), some (.ref 116), some (.int l3)], [.int (nI 0)], r80.2, E)) rfl ?_
        cases h
        exact ev_ret hq rfl rfl ⟨rfl, rfl, rfl⟩
    refine gv_if h (fun c42 h => ?_) (fun c42 h => ?_)
    · refine ev_ins hq rfl (S' := (1504, [some (.ref 2001), some (.ref 0), some (.ref 116), some (.int l3)], [], D, E)) (gv_sw (fun z => ((33, [some (.ref 2001), some (.ref 0), some (.ref 116), some (.int l3)], .int z :: [], D, E) : mx_S)) c42 rfl) ?_
      refine gv_n hq 5 (S' := (1509, [some (.ref 2001), some (.ref 0), some (.ref 116), some (.int l3)], [.int (l3 + (nI 1)), .ref 2001, .ref 0], D, E)) rfl ?_
      refine gv_ix hq rfl rfl h 1510 rfl (fun h => ?_)
      refine gv_n hq 4 (S' := (1514, [some (.ref 2001), some (.ref 0), some (.ref 116), some (.int l3)], [.int (l3 + (nI 2)), .ref 2001, .int (X.2 ((l3 + (nI 1))).toNatClampNeg), .ref 0], D, E)) rfl ?_
      refine gv_ix hq rfl rfl h 1515 rfl (fun h => ?_)
      obtain ⟨r81, h1, h⟩ := Option.bind_eq_some_iff.mp h
      refine gv_d hq rfl rfl rfl rfl rfl (gv_dd (by omega) (t_X_wears X F (d - 1) (by omega) E _ _ _ _ h1)) (S' := (1518, [some (.ref 2001), some (.ref 0), some (.ref 116), some (.int l3)], [.int r81.1], r81.2, E)) rfl ?_
      refine gv_n hq 5 (S' := (1523, [some (.ref 2001), some (.ref 0), some (.ref 116), some (.int l3)], [.int (l3 + (nI 1)), .ref 2001, .ref 116, .int r81.1], r81.2, E)) rfl ?_
      refine gv_ix hq rfl rfl h 1524 rfl (fun h => ?_)
      refine gv_n hq 4 (S' := (1528, [some (.ref 2001), some (.ref 0), some (.ref 116), some (.int l3)], [.int (l3 + (nI 2)), .ref 2001, .int (X.2 ((l3 + (nI 1))).toNatClampNeg), .ref 116, .int r81.1], r81.2, E)) rfl ?_
      refine gv_ix hq rfl rfl h 1529 rfl (fun h => ?_)
      obtain ⟨r82, h1, h⟩ := Option.bind_eq_some_iff.mp h
      refine gv_d hq rfl rfl rfl rfl rfl (gv_dd (by omega) (t_M_wears X F (d - 1) (by omega) E _ _ _ _ h1)) (S' := (1532, [some (.ref 2001), some (.ref 0), some (.ref 116), some (.int l3)], [.int r82.1, .int r81.1], r82.2, E)) rfl ?_
      refine gv_b hq rfl h 2168 1535 rfl rfl rfl (fun h => ?_) (fun h => ?_)
      · refine gv_n hq 2 (S' := (18, [some (.ref 2001), some (.ref 0), some (.ref 116), some (.int (l3 + (nI 6)))], [], r82.2, E)) rfl ?_
        exact gv_w (K18 _ _ _ _ h) (And.intro rfl (And.intro rfl (And.intro rfl (And.intro rfl trivial))))
      · refine gv_n hq 1 (S' := (1536, [some (.ref 2001), some (.ref 0), some (.ref 116), some (.int l3)], [.int (nI 0)], r82.2, E)) rfl ?_
        cases h
        exact ev_ret hq rfl rfl ⟨rfl, rfl, rfl⟩
    refine gv_if h (fun c43 h => ?_) (fun c43 h => ?_)
    · refine ev_ins hq rfl (S' := (1537, [some (.ref 2001), some (.ref 0), some (.ref 116), some (.int l3)], [], D, E)) (gv_sw (fun z => ((33, [some (.ref 2001), some (.ref 0), some (.ref 116), some (.int l3)], .int z :: [], D, E) : mx_S)) c43 rfl) ?_
      refine gv_n hq 5 (S' := (1542, [some (.ref 2001), some (.ref 0), some (.ref 116), some (.int l3)], [.int (l3 + (nI 1)), .ref 2001, .ref 0], D, E)) rfl ?_
      refine gv_ix hq rfl rfl h 1543 rfl (fun h => ?_)
      refine gv_n hq 4 (S' := (1547, [some (.ref 2001), some (.ref 0), some (.ref 116), some (.int l3)], [.int (l3 + (nI 2)), .ref 2001, .int (X.2 ((l3 + (nI 1))).toNatClampNeg), .ref 0], D, E)) rfl ?_
      refine gv_ix hq rfl rfl h 1548 rfl (fun h => ?_)
      obtain ⟨r83, h1, h⟩ := Option.bind_eq_some_iff.mp h
      refine gv_d hq rfl rfl rfl rfl rfl (gv_dd (by omega) (t_X_stands X (d - 1) (by omega) E _ _ _ _ h1)) (S' := (1551, [some (.ref 2001), some (.ref 0), some (.ref 116), some (.int l3)], [.int r83.1], r83.2, E)) rfl ?_
      refine gv_n hq 5 (S' := (1556, [some (.ref 2001), some (.ref 0), some (.ref 116), some (.int l3)], [.int (l3 + (nI 1)), .ref 2001, .ref 116, .int r83.1], r83.2, E)) rfl ?_
      refine gv_ix hq rfl rfl h 1557 rfl (fun h => ?_)
      refine gv_n hq 4 (S' := (1561, [some (.ref 2001), some (.ref 0), some (.ref 116), some (.int l3)], [.int (l3 + (nI 2)), .ref 2001, .int (X.2 ((l3 + (nI 1))).toNatClampNeg), .ref 116, .int r83.1], r83.2, E)) rfl ?_
      refine gv_ix hq rfl rfl h 1562 rfl (fun h => ?_)
      obtain ⟨r84, h1, h⟩ := Option.bind_eq_some_iff.mp h
      refine gv_d hq rfl rfl rfl rfl rfl (gv_dd (by omega) (t_M_stands X (d - 1) (by omega) E _ _ _ _ h1)) (S' := (1565, [some (.ref 2001), some (.ref 0), some (.ref 116), some (.int l3)], [.int r84.1, .int r83.1], r84.2, E)) rfl ?_
      refine gv_b hq rfl h 2168 1568 rfl rfl rfl (fun h => ?_) (fun h => ?_)
      · refine gv_n hq 2 (S' := (18, [some (.ref 2001), some (.ref 0), some (.ref 116), some (.int (l3 + (nI 6)))], [], r84.2, E)) rfl ?_
        exact gv_w (K18 _ _ _ _ h) (And.intro rfl (And.intro rfl (And.intro rfl (And.intro rfl trivial))))
      · refine gv_n hq 1 (S' := (1569, [some (.ref 2001), some (.ref 0), some (.ref 116), some (.int l3)], [.int (nI 0)], r84.2, E)) rfl ?_
        cases h
        exact ev_ret hq rfl rfl ⟨rfl, rfl, rfl⟩
    refine gv_if h (fun c44 h => ?_) (fun c44 h => ?_)
    · refine ev_ins hq rfl (S' := (1570, [some (.ref 2001), some (.ref 0), some (.ref 116), some (.int l3)], [], D, E)) (gv_sw (fun z => ((33, [some (.ref 2001), some (.ref 0), some (.ref 116), some (.int l3)], .int z :: [], D, E) : mx_S)) c44 rfl) ?_
      refine gv_n hq 5 (S' := (1575, [some (.ref 2001), some (.ref 0), some (.ref 116), some (.int l3)], [.int (l3 + (nI 1)), .ref 2001, .ref 0], D, E)) rfl ?_
      refine gv_ix hq rfl rfl h 1576 rfl (fun h => ?_)
      refine gv_n hq 4 (S' := (1580, [some (.ref 2001), some (.ref 0), some (.ref 116), some (.int l3)], [.int (l3 + (nI 2)), .ref 2001, .int (X.2 ((l3 + (nI 1))).toNatClampNeg), .ref 0], D, E)) rfl ?_
      refine gv_ix hq rfl rfl h 1581 rfl (fun h => ?_)
      refine gv_n hq 4 (S' := (1585, [some (.ref 2001), some (.ref 0), some (.ref 116), some (.int l3)], [.int (l3 + (nI 3)), .ref 2001, .int (X.2 ((l3 + (nI 2))).toNatClampNeg), .int (X.2 ((l3 + (nI 1))).toNatClampNeg), .ref 0], D, E)) rfl ?_
      refine gv_ix hq rfl rfl h 1586 rfl (fun h => ?_)
      obtain ⟨r85, h1, h⟩ := Option.bind_eq_some_iff.mp h
      refine gv_d hq rfl rfl rfl rfl rfl (gv_dd (by omega) (t_X_trench X (d - 1) (by omega) E _ _ _ _ _ h1)) (S' := (1589, [some (.ref 2001), some (.ref 0), some (.ref 116), some (.int l3)], [.int r85.1], r85.2, E)) rfl ?_
      refine gv_n hq 5 (S' := (1594, [some (.ref 2001), some (.ref 0), some (.ref 116), some (.int l3)], [.int (l3 + (nI 1)), .ref 2001, .ref 116, .int r85.1], r85.2, E)) rfl ?_
      refine gv_ix hq rfl rfl h 1595 rfl (fun h => ?_)
      refine gv_n hq 4 (S' := (1599, [some (.ref 2001), some (.ref 0), some (.ref 116), some (.int l3)], [.int (l3 + (nI 2)), .ref 2001, .int (X.2 ((l3 + (nI 1))).toNatClampNeg), .ref 116, .int r85.1], r85.2, E)) rfl ?_
      refine gv_ix hq rfl rfl h 1600 rfl (fun h => ?_)
      refine gv_n hq 4 (S' := (1604, [some (.ref 2001), some (.ref 0), some (.ref 116), some (.int l3)], [.int (l3 + (nI 3)), .ref 2001, .int (X.2 ((l3 + (nI 2))).toNatClampNeg), .int (X.2 ((l3 + (nI 1))).toNatClampNeg), .ref 116, .int r85.1], r85.2, E)) rfl ?_
      refine gv_ix hq rfl rfl h 1605 rfl (fun h => ?_)
      obtain ⟨r86, h1, h⟩ := Option.bind_eq_some_iff.mp h
      refine gv_d hq rfl rfl rfl rfl rfl (gv_dd (by omega) (t_M_trench X (d - 1) (by omega) E _ _ _ _ _ h1)) (S' := (1608, [some (.ref 2001), some (.ref 0), some (.ref 116), some (.int l3)], [.int r86.1, .int r85.1], r86.2, E)) rfl ?_
      refine gv_b hq rfl h 2168 1611 rfl rfl rfl (fun h => ?_) (fun h => ?_)
      · refine gv_n hq 2 (S' := (18, [some (.ref 2001), some (.ref 0), some (.ref 116), some (.int (l3 + (nI 6)))], [], r86.2, E)) rfl ?_
        exact gv_w (K18 _ _ _ _ h) (And.intro rfl (And.intro rfl (And.intro rfl (And.intro rfl trivial))))
      · refine gv_n hq 1 (S' := (1612, [some (.ref 2001), some (.ref 0), some (.ref 116), some (.int l3)], [.int (nI 0)], r86.2, E)) rfl ?_
        cases h
        exact ev_ret hq rfl rfl ⟨rfl, rfl, rfl⟩
    refine gv_if h (fun c45 h => ?_) (fun c45 h => ?_)
    · refine ev_ins hq rfl (S' := (1613, [some (.ref 2001), some (.ref 0), some (.ref 116), some (.int l3)], [], D, E)) (gv_sw (fun z => ((33, [some (.ref 2001), some (.ref 0), some (.ref 116), some (.int l3)], .int z :: [], D, E) : mx_S)) c45 rfl) ?_
      refine gv_n hq 5 (S' := (1618, [some (.ref 2001), some (.ref 0), some (.ref 116), some (.int l3)], [.int (l3 + (nI 1)), .ref 2001, .ref 0], D, E)) rfl ?_
      refine gv_ix hq rfl rfl h 1619 rfl (fun h => ?_)
      refine gv_n hq 4 (S' := (1623, [some (.ref 2001), some (.ref 0), some (.ref 116), some (.int l3)], [.int (l3 + (nI 2)), .ref 2001, .int (X.2 ((l3 + (nI 1))).toNatClampNeg), .ref 0], D, E)) rfl ?_
      refine gv_ix hq rfl rfl h 1624 rfl (fun h => ?_)
      obtain ⟨r87, h1, h⟩ := Option.bind_eq_some_iff.mp h
      refine gv_d hq rfl rfl rfl rfl rfl (gv_dd (by omega) (t_X_digs X F (d - 1) (by omega) E _ _ _ _ h1)) (S' := (1627, [some (.ref 2001), some (.ref 0), some (.ref 116), some (.int l3)], [.int r87.1], r87.2, E)) rfl ?_
      refine gv_n hq 5 (S' := (1632, [some (.ref 2001), some (.ref 0), some (.ref 116), some (.int l3)], [.int (l3 + (nI 1)), .ref 2001, .ref 116, .int r87.1], r87.2, E)) rfl ?_
      refine gv_ix hq rfl rfl h 1633 rfl (fun h => ?_)
      refine gv_n hq 4 (S' := (1637, [some (.ref 2001), some (.ref 0), some (.ref 116), some (.int l3)], [.int (l3 + (nI 2)), .ref 2001, .int (X.2 ((l3 + (nI 1))).toNatClampNeg), .ref 116, .int r87.1], r87.2, E)) rfl ?_
      refine gv_ix hq rfl rfl h 1638 rfl (fun h => ?_)
      obtain ⟨r88, h1, h⟩ := Option.bind_eq_some_iff.mp h
      refine gv_d hq rfl rfl rfl rfl rfl (gv_dd (by omega) (t_M_digs X F (d - 1) (by omega) E _ _ _ _ h1)) (S' := (1641, [some (.ref 2001), some (.ref 0), some (.ref 116), some (.int l3)], [.int r88.1, .int r87.1], r88.2, E)) rfl ?_
      refine gv_b hq rfl h 2168 1644 rfl rfl rfl (fun h => ?_) (fun h => ?_)
      · refine gv_n hq 2 (S' := (18, [some (.ref 2001), some (.ref 0), some (.ref 116), some (.int (l3 + (nI 6)))], [], r88.2, E)) rfl ?_
        exact gv_w (K18 _ _ _ _ h) (And.intro rfl (And.intro rfl (And.intro rfl (And.intro rfl trivial))))
      · refine gv_n hq 1 (S' := (1645, [some (.ref 2001), some (.ref 0), some (.ref 116), some (.int l3)], [.int (nI 0)], r88.2, E)) rfl ?_
        cases h
        exact ev_ret hq rfl rfl ⟨rfl, rfl, rfl⟩
    refine gv_if h (fun c46 h => ?_) (fun c46 h => ?_)
    · refine ev_ins hq rfl (S' := (1646, [some (.ref 2001), some (.ref 0), some (.ref 116), some (.int l3)], [], D, E)) (gv_sw (fun z => ((33, [some (.ref 2001), some (.ref 0), some (.ref 116), some (.int l3)], .int z :: [], D, E) : mx_S)) c46 rfl) ?_
      refine gv_n hq 5 (S' := (1651, [some (.ref 2001), some (.ref 0), some (.ref 116), some (.int l3)], [.int (l3 + (nI 1)), .ref 2001, .ref 0], D, E)) rfl ?_
      refine gv_ix hq rfl rfl h 1652 rfl (fun h => ?_)
      refine gv_d hq rfl rfl rfl rfl rfl (gv_dd (by omega) (t_X_law X (d - 1) (by omega) E _ _ _ rfl)) (S' := (1655, [some (.ref 2001), some (.ref 0), some (.ref 116), some (.int l3)], [.int (g_X_law (X.2 ((l3 + (nI 1))).toNatClampNeg) D).1], (g_X_law (X.2 ((l3 + (nI 1))).toNatClampNeg) D).2, E)) rfl ?_
      refine gv_n hq 5 (S' := (1660, [some (.ref 2001), some (.ref 0), some (.ref 116), some (.int l3)], [.int (l3 + (nI 1)), .ref 2001, .ref 116, .int (g_X_law (X.2 ((l3 + (nI 1))).toNatClampNeg) D).1], (g_X_law (X.2 ((l3 + (nI 1))).toNatClampNeg) D).2, E)) rfl ?_
      refine gv_ix hq rfl rfl h 1661 rfl (fun h => ?_)
      refine gv_d hq rfl rfl rfl rfl rfl (gv_dd (by omega) (t_M_law X (d - 1) (by omega) E _ _ _ rfl)) (S' := (1664, [some (.ref 2001), some (.ref 0), some (.ref 116), some (.int l3)], [.int (g_M_law (X.2 ((l3 + (nI 1))).toNatClampNeg) (g_X_law (X.2 ((l3 + (nI 1))).toNatClampNeg) D).2).1, .int (g_X_law (X.2 ((l3 + (nI 1))).toNatClampNeg) D).1], (g_M_law (X.2 ((l3 + (nI 1))).toNatClampNeg) (g_X_law (X.2 ((l3 + (nI 1))).toNatClampNeg) D).2).2, E)) rfl ?_
      refine gv_b hq rfl h 2168 1667 rfl rfl rfl (fun h => ?_) (fun h => ?_)
      · refine gv_n hq 2 (S' := (18, [some (.ref 2001), some (.ref 0), some (.ref 116), some (.int (l3 + (nI 6)))], [], (g_M_law (X.2 ((l3 + (nI 1))).toNatClampNeg) (g_X_law (X.2 ((l3 + (nI 1))).toNatClampNeg) D).2).2, E)) rfl ?_
        exact gv_w (K18 _ _ _ _ h) (And.intro rfl (And.intro rfl (And.intro rfl (And.intro rfl trivial))))
      · refine gv_n hq 1 (S' := (1668, [some (.ref 2001), some (.ref 0), some (.ref 116), some (.int l3)], [.int (nI 0)], (g_M_law (X.2 ((l3 + (nI 1))).toNatClampNeg) (g_X_law (X.2 ((l3 + (nI 1))).toNatClampNeg) D).2).2, E)) rfl ?_
        cases h
        exact ev_ret hq rfl rfl ⟨rfl, rfl, rfl⟩
    refine gv_if h (fun c47 h => ?_) (fun c47 h => ?_)
    · refine ev_ins hq rfl (S' := (1669, [some (.ref 2001), some (.ref 0), some (.ref 116), some (.int l3)], [], D, E)) (gv_sw (fun z => ((33, [some (.ref 2001), some (.ref 0), some (.ref 116), some (.int l3)], .int z :: [], D, E) : mx_S)) c47 rfl) ?_
      refine gv_n hq 5 (S' := (1674, [some (.ref 2001), some (.ref 0), some (.ref 116), some (.int l3)], [.int (l3 + (nI 1)), .ref 2001, .ref 0], D, E)) rfl ?_
      refine gv_ix hq rfl rfl h 1675 rfl (fun h => ?_)
      refine gv_n hq 4 (S' := (1679, [some (.ref 2001), some (.ref 0), some (.ref 116), some (.int l3)], [.int (l3 + (nI 2)), .ref 2001, .int (X.2 ((l3 + (nI 1))).toNatClampNeg), .ref 0], D, E)) rfl ?_
      refine gv_ix hq rfl rfl h 1680 rfl (fun h => ?_)
      obtain ⟨r89, h1, h⟩ := Option.bind_eq_some_iff.mp h
      refine gv_d hq rfl rfl rfl rfl rfl (gv_dd (by omega) (t_X_least X F (d - 1) (by omega) E _ _ _ _ h1)) (S' := (1683, [some (.ref 2001), some (.ref 0), some (.ref 116), some (.int l3)], [.int r89.1], r89.2, E)) rfl ?_
      refine gv_n hq 5 (S' := (1688, [some (.ref 2001), some (.ref 0), some (.ref 116), some (.int l3)], [.int (l3 + (nI 1)), .ref 2001, .ref 116, .int r89.1], r89.2, E)) rfl ?_
      refine gv_ix hq rfl rfl h 1689 rfl (fun h => ?_)
      refine gv_n hq 4 (S' := (1693, [some (.ref 2001), some (.ref 0), some (.ref 116), some (.int l3)], [.int (l3 + (nI 2)), .ref 2001, .int (X.2 ((l3 + (nI 1))).toNatClampNeg), .ref 116, .int r89.1], r89.2, E)) rfl ?_
      refine gv_ix hq rfl rfl h 1694 rfl (fun h => ?_)
      obtain ⟨r90, h1, h⟩ := Option.bind_eq_some_iff.mp h
      refine gv_d hq rfl rfl rfl rfl rfl (gv_dd (by omega) (t_M_least X F (d - 1) (by omega) E _ _ _ _ h1)) (S' := (1697, [some (.ref 2001), some (.ref 0), some (.ref 116), some (.int l3)], [.int r90.1, .int r89.1], r90.2, E)) rfl ?_
      refine gv_b hq rfl h 2168 1700 rfl rfl rfl (fun h => ?_) (fun h => ?_)
      · refine gv_n hq 2 (S' := (18, [some (.ref 2001), some (.ref 0), some (.ref 116), some (.int (l3 + (nI 6)))], [], r90.2, E)) rfl ?_
        exact gv_w (K18 _ _ _ _ h) (And.intro rfl (And.intro rfl (And.intro rfl (And.intro rfl trivial))))
      · refine gv_n hq 1 (S' := (1701, [some (.ref 2001), some (.ref 0), some (.ref 116), some (.int l3)], [.int (nI 0)], r90.2, E)) rfl ?_
        cases h
        exact ev_ret hq rfl rfl ⟨rfl, rfl, rfl⟩
    refine gv_if h (fun c48 h => ?_) (fun c48 h => ?_)
    · refine ev_ins hq rfl (S' := (1702, [some (.ref 2001), some (.ref 0), some (.ref 116), some (.int l3)], [], D, E)) (gv_sw (fun z => ((33, [some (.ref 2001), some (.ref 0), some (.ref 116), some (.int l3)], .int z :: [], D, E) : mx_S)) c48 rfl) ?_
      refine gv_n hq 5 (S' := (1707, [some (.ref 2001), some (.ref 0), some (.ref 116), some (.int l3)], [.int (l3 + (nI 1)), .ref 2001, .ref 0], D, E)) rfl ?_
      refine gv_ix hq rfl rfl h 1708 rfl (fun h => ?_)
      refine gv_n hq 4 (S' := (1712, [some (.ref 2001), some (.ref 0), some (.ref 116), some (.int l3)], [.int (l3 + (nI 2)), .ref 2001, .int (X.2 ((l3 + (nI 1))).toNatClampNeg), .ref 0], D, E)) rfl ?_
      refine gv_ix hq rfl rfl h 1713 rfl (fun h => ?_)
      obtain ⟨r91, h1, h⟩ := Option.bind_eq_some_iff.mp h
      refine gv_d hq rfl rfl rfl rfl rfl (gv_dd (by omega) (t_X_seen X F (d - 1) (by omega) E _ _ _ _ h1)) (S' := (1716, [some (.ref 2001), some (.ref 0), some (.ref 116), some (.int l3)], [.int r91.1], r91.2, E)) rfl ?_
      refine gv_n hq 5 (S' := (1721, [some (.ref 2001), some (.ref 0), some (.ref 116), some (.int l3)], [.int (l3 + (nI 1)), .ref 2001, .ref 116, .int r91.1], r91.2, E)) rfl ?_
      refine gv_ix hq rfl rfl h 1722 rfl (fun h => ?_)
      refine gv_n hq 4 (S' := (1726, [some (.ref 2001), some (.ref 0), some (.ref 116), some (.int l3)], [.int (l3 + (nI 2)), .ref 2001, .int (X.2 ((l3 + (nI 1))).toNatClampNeg), .ref 116, .int r91.1], r91.2, E)) rfl ?_
      refine gv_ix hq rfl rfl h 1727 rfl (fun h => ?_)
      obtain ⟨r92, h1, h⟩ := Option.bind_eq_some_iff.mp h
      refine gv_d hq rfl rfl rfl rfl rfl (gv_dd (by omega) (t_M_seen X F (d - 1) (by omega) E _ _ _ _ h1)) (S' := (1730, [some (.ref 2001), some (.ref 0), some (.ref 116), some (.int l3)], [.int r92.1, .int r91.1], r92.2, E)) rfl ?_
      refine gv_b hq rfl h 2168 1733 rfl rfl rfl (fun h => ?_) (fun h => ?_)
      · refine gv_n hq 2 (S' := (18, [some (.ref 2001), some (.ref 0), some (.ref 116), some (.int (l3 + (nI 6)))], [], r92.2, E)) rfl ?_
        exact gv_w (K18 _ _ _ _ h) (And.intro rfl (And.intro rfl (And.intro rfl (And.intro rfl trivial))))
      · refine gv_n hq 1 (S' := (1734, [some (.ref 2001), some (.ref 0), some (.ref 116), some (.int l3)], [.int (nI 0)], r92.2, E)) rfl ?_
        cases h
        exact ev_ret hq rfl rfl ⟨rfl, rfl, rfl⟩
    refine gv_if h (fun c49 h => ?_) (fun c49 h => ?_)
    · refine ev_ins hq rfl (S' := (1735, [some (.ref 2001), some (.ref 0), some (.ref 116), some (.int l3)], [], D, E)) (gv_sw (fun z => ((33, [some (.ref 2001), some (.ref 0), some (.ref 116), some (.int l3)], .int z :: [], D, E) : mx_S)) c49 rfl) ?_
      refine gv_n hq 5 (S' := (1740, [some (.ref 2001), some (.ref 0), some (.ref 116), some (.int l3)], [.int (l3 + (nI 1)), .ref 2001, .ref 0], D, E)) rfl ?_
      refine gv_ix hq rfl rfl h 1741 rfl (fun h => ?_)
      refine gv_n hq 4 (S' := (1745, [some (.ref 2001), some (.ref 0), some (.ref 116), some (.int l3)], [.int (l3 + (nI 2)), .ref 2001, .int (X.2 ((l3 + (nI 1))).toNatClampNeg), .ref 0], D, E)) rfl ?_
      refine gv_ix hq rfl rfl h 1746 rfl (fun h => ?_)
      refine gv_n hq 4 (S' := (1750, [some (.ref 2001), some (.ref 0), some (.ref 116), some (.int l3)], [.int (l3 + (nI 3)), .ref 2001, .int (X.2 ((l3 + (nI 2))).toNatClampNeg), .int (X.2 ((l3 + (nI 1))).toNatClampNeg), .ref 0], D, E)) rfl ?_
      refine gv_ix hq rfl rfl h 1751 rfl (fun h => ?_)
      obtain ⟨r93, h1, h⟩ := Option.bind_eq_some_iff.mp h
      refine gv_d hq rfl rfl rfl rfl rfl (gv_dd (by omega) (t_X_sure X F (d - 1) (by omega) E _ _ _ _ _ h1)) (S' := (1754, [some (.ref 2001), some (.ref 0), some (.ref 116), some (.int l3)], [.int r93.1], r93.2, E)) rfl ?_
      refine gv_n hq 5 (S' := (1759, [some (.ref 2001), some (.ref 0), some (.ref 116), some (.int l3)], [.int (l3 + (nI 1)), .ref 2001, .ref 116, .int r93.1], r93.2, E)) rfl ?_
      refine gv_ix hq rfl rfl h 1760 rfl (fun h => ?_)
      refine gv_n hq 4 (S' := (1764, [some (.ref 2001), some (.ref 0), some (.ref 116), some (.int l3)], [.int (l3 + (nI 2)), .ref 2001, .int (X.2 ((l3 + (nI 1))).toNatClampNeg), .ref 116, .int r93.1], r93.2, E)) rfl ?_
      refine gv_ix hq rfl rfl h 1765 rfl (fun h => ?_)
      refine gv_n hq 4 (S' := (1769, [some (.ref 2001), some (.ref 0), some (.ref 116), some (.int l3)], [.int (l3 + (nI 3)), .ref 2001, .int (X.2 ((l3 + (nI 2))).toNatClampNeg), .int (X.2 ((l3 + (nI 1))).toNatClampNeg), .ref 116, .int r93.1], r93.2, E)) rfl ?_
      refine gv_ix hq rfl rfl h 1770 rfl (fun h => ?_)
      obtain ⟨r94, h1, h⟩ := Option.bind_eq_some_iff.mp h
      refine gv_d hq rfl rfl rfl rfl rfl (gv_dd (by omega) (t_M_sure X F (d - 1) (by omega) E _ _ _ _ _ h1)) (S' := (1773, [some (.ref 2001), some (.ref 0), some (.ref 116), some (.int l3)], [.int r94.1, .int r93.1], r94.2, E)) rfl ?_
      refine gv_b hq rfl h 2168 1776 rfl rfl rfl (fun h => ?_) (fun h => ?_)
      · refine gv_n hq 2 (S' := (18, [some (.ref 2001), some (.ref 0), some (.ref 116), some (.int (l3 + (nI 6)))], [], r94.2, E)) rfl ?_
        exact gv_w (K18 _ _ _ _ h) (And.intro rfl (And.intro rfl (And.intro rfl (And.intro rfl trivial))))
      · refine gv_n hq 1 (S' := (1777, [some (.ref 2001), some (.ref 0), some (.ref 116), some (.int l3)], [.int (nI 0)], r94.2, E)) rfl ?_
        cases h
        exact ev_ret hq rfl rfl ⟨rfl, rfl, rfl⟩
    refine gv_if h (fun c50 h => ?_) (fun c50 h => ?_)
    · refine ev_ins hq rfl (S' := (1778, [some (.ref 2001), some (.ref 0), some (.ref 116), some (.int l3)], [], D, E)) (gv_sw (fun z => ((33, [some (.ref 2001), some (.ref 0), some (.ref 116), some (.int l3)], .int z :: [], D, E) : mx_S)) c50 rfl) ?_
      refine gv_n hq 5 (S' := (1783, [some (.ref 2001), some (.ref 0), some (.ref 116), some (.int l3)], [.int (l3 + (nI 1)), .ref 2001, .ref 0], D, E)) rfl ?_
      refine gv_ix hq rfl rfl h 1784 rfl (fun h => ?_)
      refine gv_n hq 4 (S' := (1788, [some (.ref 2001), some (.ref 0), some (.ref 116), some (.int l3)], [.int (l3 + (nI 2)), .ref 2001, .int (X.2 ((l3 + (nI 1))).toNatClampNeg), .ref 0], D, E)) rfl ?_
      refine gv_ix hq rfl rfl h 1789 rfl (fun h => ?_)
      obtain ⟨r95, h1, h⟩ := Option.bind_eq_some_iff.mp h
      refine gv_d hq rfl rfl rfl rfl rfl (gv_dd (by omega) (t_X_odd X F (d - 1) (by omega) E _ _ _ _ h1)) (S' := (1792, [some (.ref 2001), some (.ref 0), some (.ref 116), some (.int l3)], [.int r95.1], r95.2, E)) rfl ?_
      refine gv_n hq 5 (S' := (1797, [some (.ref 2001), some (.ref 0), some (.ref 116), some (.int l3)], [.int (l3 + (nI 1)), .ref 2001, .ref 116, .int r95.1], r95.2, E)) rfl ?_
      refine gv_ix hq rfl rfl h 1798 rfl (fun h => ?_)
      refine gv_n hq 4 (S' := (1802, [some (.ref 2001), some (.ref 0), some (.ref 116), some (.int l3)], [.int (l3 + (nI 2)), .ref 2001, .int (X.2 ((l3 + (nI 1))).toNatClampNeg), .ref 116, .int r95.1], r95.2, E)) rfl ?_
      refine gv_ix hq rfl rfl h 1803 rfl (fun h => ?_)
      obtain ⟨r96, h1, h⟩ := Option.bind_eq_some_iff.mp h
      refine gv_d hq rfl rfl rfl rfl rfl (gv_dd (by omega) (t_M_odd X F (d - 1) (by omega) r95.2 E _ _ _ h1)) (S' := (1806, [some (.ref 2001), some (.ref 0), some (.ref 116), some (.int l3)], [.int r96, .int r95.1], r95.2, E)) rfl ?_
      refine gv_b hq rfl h 2168 1809 rfl rfl rfl (fun h => ?_) (fun h => ?_)
      · refine gv_n hq 2 (S' := (18, [some (.ref 2001), some (.ref 0), some (.ref 116), some (.int (l3 + (nI 6)))], [], r95.2, E)) rfl ?_
        exact gv_w (K18 _ _ _ _ h) (And.intro rfl (And.intro rfl (And.intro rfl (And.intro rfl trivial))))
      · refine gv_n hq 1 (S' := (1810, [some (.ref 2001), some (.ref 0), some (.ref 116), some (.int l3)], [.int (nI 0)], r95.2, E)) rfl ?_
        cases h
        exact ev_ret hq rfl rfl ⟨rfl, rfl, rfl⟩
    refine gv_if h (fun c51 h => ?_) (fun c51 h => ?_)
    · refine ev_ins hq rfl (S' := (1811, [some (.ref 2001), some (.ref 0), some (.ref 116), some (.int l3)], [], D, E)) (gv_sw (fun z => ((33, [some (.ref 2001), some (.ref 0), some (.ref 116), some (.int l3)], .int z :: [], D, E) : mx_S)) c51 rfl) ?_
      refine gv_n hq 5 (S' := (1816, [some (.ref 2001), some (.ref 0), some (.ref 116), some (.int l3)], [.int (l3 + (nI 1)), .ref 2001, .ref 0], D, E)) rfl ?_
      refine gv_ix hq rfl rfl h 1817 rfl (fun h => ?_)
      obtain ⟨r97, h1, h⟩ := Option.bind_eq_some_iff.mp h
      refine gv_d hq rfl rfl rfl rfl rfl (gv_dd (by omega) (t_X_drawn X F (d - 1) (by omega) E _ _ _ h1)) (S' := (1820, [some (.ref 2001), some (.ref 0), some (.ref 116), some (.int l3)], [.int r97.1], r97.2, E)) rfl ?_
      refine gv_n hq 5 (S' := (1825, [some (.ref 2001), some (.ref 0), some (.ref 116), some (.int l3)], [.int (l3 + (nI 1)), .ref 2001, .ref 116, .int r97.1], r97.2, E)) rfl ?_
      refine gv_ix hq rfl rfl h 1826 rfl (fun h => ?_)
      obtain ⟨r98, h1, h⟩ := Option.bind_eq_some_iff.mp h
      refine gv_d hq rfl rfl rfl rfl rfl (gv_dd (by omega) (t_M_drawn X F (d - 1) (by omega) _ _ _ _ h1)) (S' := (1829, [some (.ref 2001), some (.ref 0), some (.ref 116), some (.int l3)], [.int r98.1, .int r97.1], r98.2.1, r98.2.2)) rfl ?_
      refine gv_b hq rfl h 2168 1832 rfl rfl rfl (fun h => ?_) (fun h => ?_)
      · refine gv_n hq 2 (S' := (18, [some (.ref 2001), some (.ref 0), some (.ref 116), some (.int (l3 + (nI 6)))], [], r98.2.1, r98.2.2)) rfl ?_
        exact gv_w (K18 _ _ _ _ h) (And.intro rfl (And.intro rfl (And.intro rfl (And.intro rfl trivial))))
      · refine gv_n hq 1 (S' := (1833, [some (.ref 2001), some (.ref 0), some (.ref 116), some (.int l3)], [.int (nI 0)], r98.2.1, r98.2.2)) rfl ?_
        cases h
        exact ev_ret hq rfl rfl ⟨rfl, rfl, rfl⟩
    refine gv_if h (fun c52 h => ?_) (fun c52 h => ?_)
    · refine ev_ins hq rfl (S' := (1834, [some (.ref 2001), some (.ref 0), some (.ref 116), some (.int l3)], [], D, E)) (gv_sw (fun z => ((33, [some (.ref 2001), some (.ref 0), some (.ref 116), some (.int l3)], .int z :: [], D, E) : mx_S)) c52 rfl) ?_
      refine gv_n hq 5 (S' := (1839, [some (.ref 2001), some (.ref 0), some (.ref 116), some (.int l3)], [.int (l3 + (nI 1)), .ref 2001, .ref 0], D, E)) rfl ?_
      refine gv_ix hq rfl rfl h 1840 rfl (fun h => ?_)
      refine gv_n hq 4 (S' := (1844, [some (.ref 2001), some (.ref 0), some (.ref 116), some (.int l3)], [.int (l3 + (nI 2)), .ref 2001, .int (X.2 ((l3 + (nI 1))).toNatClampNeg), .ref 0], D, E)) rfl ?_
      refine gv_ix hq rfl rfl h 1845 rfl (fun h => ?_)
      refine gv_n hq 4 (S' := (1849, [some (.ref 2001), some (.ref 0), some (.ref 116), some (.int l3)], [.int (l3 + (nI 3)), .ref 2001, .int (X.2 ((l3 + (nI 2))).toNatClampNeg), .int (X.2 ((l3 + (nI 1))).toNatClampNeg), .ref 0], D, E)) rfl ?_
      refine gv_ix hq rfl rfl h 1850 rfl (fun h => ?_)
      obtain ⟨r99, h1, h⟩ := Option.bind_eq_some_iff.mp h
      refine gv_d hq rfl rfl rfl rfl rfl (gv_dd (by omega) (t_X_grown X F (d - 1) (by omega) E _ _ _ _ _ h1)) (S' := (1853, [some (.ref 2001), some (.ref 0), some (.ref 116), some (.int l3)], [.int r99.1], r99.2, E)) rfl ?_
      refine gv_n hq 5 (S' := (1858, [some (.ref 2001), some (.ref 0), some (.ref 116), some (.int l3)], [.int (l3 + (nI 1)), .ref 2001, .ref 116, .int r99.1], r99.2, E)) rfl ?_
      refine gv_ix hq rfl rfl h 1859 rfl (fun h => ?_)
      refine gv_n hq 4 (S' := (1863, [some (.ref 2001), some (.ref 0), some (.ref 116), some (.int l3)], [.int (l3 + (nI 2)), .ref 2001, .int (X.2 ((l3 + (nI 1))).toNatClampNeg), .ref 116, .int r99.1], r99.2, E)) rfl ?_
      refine gv_ix hq rfl rfl h 1864 rfl (fun h => ?_)
      refine gv_n hq 4 (S' := (1868, [some (.ref 2001), some (.ref 0), some (.ref 116), some (.int l3)], [.int (l3 + (nI 3)), .ref 2001, .int (X.2 ((l3 + (nI 2))).toNatClampNeg), .int (X.2 ((l3 + (nI 1))).toNatClampNeg), .ref 116, .int r99.1], r99.2, E)) rfl ?_
      refine gv_ix hq rfl rfl h 1869 rfl (fun h => ?_)
      obtain ⟨r100, h1, h⟩ := Option.bind_eq_some_iff.mp h
      refine gv_d hq rfl rfl rfl rfl rfl (gv_dd (by omega) (t_M_grown X F (d - 1) (by omega) _ _ _ _ _ _ h1)) (S' := (1872, [some (.ref 2001), some (.ref 0), some (.ref 116), some (.int l3)], [.int r100.1, .int r99.1], r100.2.1, r100.2.2)) rfl ?_
      refine gv_b hq rfl h 2168 1875 rfl rfl rfl (fun h => ?_) (fun h => ?_)
      · refine gv_n hq 2 (S' := (18, [some (.ref 2001), some (.ref 0), some (.ref 116), some (.int (l3 + (nI 6)))], [], r100.2.1, r100.2.2)) rfl ?_
        exact gv_w (K18 _ _ _ _ h) (And.intro rfl (And.intro rfl (And.intro rfl (And.intro rfl trivial))))
      · refine gv_n hq 1 (S' := (1876, [some (.ref 2001), some (.ref 0), some (.ref 116), some (.int l3)], [.int (nI 0)], r100.2.1, r100.2.2)) rfl ?_
        cases h
        exact ev_ret hq rfl rfl ⟨rfl, rfl, rfl⟩
    refine gv_if h (fun c53 h => ?_) (fun c53 h => ?_)
    · refine ev_ins hq rfl (S' := (1877, [some (.ref 2001), some (.ref 0), some (.ref 116), some (.int l3)], [], D, E)) (gv_sw (fun z => ((33, [some (.ref 2001), some (.ref 0), some (.ref 116), some (.int l3)], .int z :: [], D, E) : mx_S)) c53 rfl) ?_
      refine gv_n hq 5 (S' := (1882, [some (.ref 2001), some (.ref 0), some (.ref 116), some (.int l3)], [.int (l3 + (nI 1)), .ref 2001, .ref 0], D, E)) rfl ?_
      refine gv_ix hq rfl rfl h 1883 rfl (fun h => ?_)
      refine gv_n hq 4 (S' := (1887, [some (.ref 2001), some (.ref 0), some (.ref 116), some (.int l3)], [.int (l3 + (nI 2)), .ref 2001, .int (X.2 ((l3 + (nI 1))).toNatClampNeg), .ref 0], D, E)) rfl ?_
      refine gv_ix hq rfl rfl h 1888 rfl (fun h => ?_)
      refine gv_n hq 4 (S' := (1892, [some (.ref 2001), some (.ref 0), some (.ref 116), some (.int l3)], [.int (l3 + (nI 3)), .ref 2001, .int (X.2 ((l3 + (nI 2))).toNatClampNeg), .int (X.2 ((l3 + (nI 1))).toNatClampNeg), .ref 0], D, E)) rfl ?_
      refine gv_ix hq rfl rfl h 1893 rfl (fun h => ?_)
      obtain ⟨r101, h1, h⟩ := Option.bind_eq_some_iff.mp h
      refine gv_d hq rfl rfl rfl rfl rfl (gv_dd (by omega) (t_X_years X F (d - 1) (by omega) E _ _ _ _ _ h1)) (S' := (1896, [some (.ref 2001), some (.ref 0), some (.ref 116), some (.int l3)], [.int r101.1], r101.2, E)) rfl ?_
      refine gv_n hq 5 (S' := (1901, [some (.ref 2001), some (.ref 0), some (.ref 116), some (.int l3)], [.int (l3 + (nI 1)), .ref 2001, .ref 116, .int r101.1], r101.2, E)) rfl ?_
      refine gv_ix hq rfl rfl h 1902 rfl (fun h => ?_)
      refine gv_n hq 4 (S' := (1906, [some (.ref 2001), some (.ref 0), some (.ref 116), some (.int l3)], [.int (l3 + (nI 2)), .ref 2001, .int (X.2 ((l3 + (nI 1))).toNatClampNeg), .ref 116, .int r101.1], r101.2, E)) rfl ?_
      refine gv_ix hq rfl rfl h 1907 rfl (fun h => ?_)
      refine gv_n hq 4 (S' := (1911, [some (.ref 2001), some (.ref 0), some (.ref 116), some (.int l3)], [.int (l3 + (nI 3)), .ref 2001, .int (X.2 ((l3 + (nI 2))).toNatClampNeg), .int (X.2 ((l3 + (nI 1))).toNatClampNeg), .ref 116, .int r101.1], r101.2, E)) rfl ?_
      refine gv_ix hq rfl rfl h 1912 rfl (fun h => ?_)
      obtain ⟨r102, h1, h⟩ := Option.bind_eq_some_iff.mp h
      refine gv_d hq rfl rfl rfl rfl rfl (gv_dd (by omega) (t_M_years X F (d - 1) (by omega) _ _ _ _ _ _ h1)) (S' := (1915, [some (.ref 2001), some (.ref 0), some (.ref 116), some (.int l3)], [.int r102.1, .int r101.1], r102.2.1, r102.2.2)) rfl ?_
      refine gv_b hq rfl h 2168 1918 rfl rfl rfl (fun h => ?_) (fun h => ?_)
      · refine gv_n hq 2 (S' := (18, [some (.ref 2001), some (.ref 0), some (.ref 116), some (.int (l3 + (nI 6)))], [], r102.2.1, r102.2.2)) rfl ?_
        exact gv_w (K18 _ _ _ _ h) (And.intro rfl (And.intro rfl (And.intro rfl (And.intro rfl trivial))))
      · refine gv_n hq 1 (S' := (1919, [some (.ref 2001), some (.ref 0), some (.ref 116), some (.int l3)], [.int (nI 0)], r102.2.1, r102.2.2)) rfl ?_
        cases h
        exact ev_ret hq rfl rfl ⟨rfl, rfl, rfl⟩
    refine gv_if h (fun c54 h => ?_) (fun c54 h => ?_)
    · refine ev_ins hq rfl (S' := (1920, [some (.ref 2001), some (.ref 0), some (.ref 116), some (.int l3)], [], D, E)) (gv_sw (fun z => ((33, [some (.ref 2001), some (.ref 0), some (.ref 116), some (.int l3)], .int z :: [], D, E) : mx_S)) c54 rfl) ?_
      refine gv_n hq 5 (S' := (1925, [some (.ref 2001), some (.ref 0), some (.ref 116), some (.int l3)], [.int (l3 + (nI 1)), .ref 2001, .ref 0], D, E)) rfl ?_
      refine gv_ix hq rfl rfl h 1926 rfl (fun h => ?_)
      obtain ⟨r103, h1, h⟩ := Option.bind_eq_some_iff.mp h
      refine gv_d hq rfl rfl rfl rfl rfl (gv_dd (by omega) (t_X_count X F (d - 1) (by omega) D E _ _ h1)) (S' := (1929, [some (.ref 2001), some (.ref 0), some (.ref 116), some (.int l3)], [.int r103], D, E)) rfl ?_
      refine gv_n hq 5 (S' := (1934, [some (.ref 2001), some (.ref 0), some (.ref 116), some (.int l3)], [.int (l3 + (nI 1)), .ref 2001, .ref 116, .int r103], D, E)) rfl ?_
      refine gv_ix hq rfl rfl h 1935 rfl (fun h => ?_)
      obtain ⟨r104, h1, h⟩ := Option.bind_eq_some_iff.mp h
      refine gv_d hq rfl rfl rfl rfl rfl (gv_dd (by omega) (t_M_count X F (d - 1) (by omega) D E _ _ h1)) (S' := (1938, [some (.ref 2001), some (.ref 0), some (.ref 116), some (.int l3)], [.int r104, .int r103], D, E)) rfl ?_
      refine gv_b hq rfl h 2168 1941 rfl rfl rfl (fun h => ?_) (fun h => ?_)
      · refine gv_n hq 2 (S' := (18, [some (.ref 2001), some (.ref 0), some (.ref 116), some (.int (l3 + (nI 6)))], [], D, E)) rfl ?_
        exact gv_w (K18 _ _ _ _ h) (And.intro rfl (And.intro rfl (And.intro rfl (And.intro rfl trivial))))
      · refine gv_n hq 1 (S' := (1942, [some (.ref 2001), some (.ref 0), some (.ref 116), some (.int l3)], [.int (nI 0)], D, E)) rfl ?_
        cases h
        exact ev_ret hq rfl rfl ⟨rfl, rfl, rfl⟩
    refine gv_if h (fun c55 h => ?_) (fun c55 h => ?_)
    · refine ev_ins hq rfl (S' := (1943, [some (.ref 2001), some (.ref 0), some (.ref 116), some (.int l3)], [], D, E)) (gv_sw (fun z => ((33, [some (.ref 2001), some (.ref 0), some (.ref 116), some (.int l3)], .int z :: [], D, E) : mx_S)) c55 rfl) ?_
      refine gv_n hq 5 (S' := (1948, [some (.ref 2001), some (.ref 0), some (.ref 116), some (.int l3)], [.int (l3 + (nI 1)), .ref 2001, .ref 0], D, E)) rfl ?_
      refine gv_ix hq rfl rfl h 1949 rfl (fun h => ?_)
      obtain ⟨r105, h1, h⟩ := Option.bind_eq_some_iff.mp h
      refine gv_d hq rfl rfl rfl rfl rfl (gv_dd (by omega) (t_X_image X (d - 1) (by omega) E _ _ _ h1)) (S' := (1952, [some (.ref 2001), some (.ref 0), some (.ref 116), some (.int l3)], [.int r105.1], r105.2, E)) rfl ?_
      refine gv_n hq 5 (S' := (1957, [some (.ref 2001), some (.ref 0), some (.ref 116), some (.int l3)], [.int (l3 + (nI 1)), .ref 2001, .ref 116, .int r105.1], r105.2, E)) rfl ?_
      refine gv_ix hq rfl rfl h 1958 rfl (fun h => ?_)
      obtain ⟨r106, h1, h⟩ := Option.bind_eq_some_iff.mp h
      refine gv_d hq rfl rfl rfl rfl rfl (gv_dd (by omega) (t_M_image X F (d - 1) (by omega) E _ _ _ h1)) (S' := (1961, [some (.ref 2001), some (.ref 0), some (.ref 116), some (.int l3)], [.int r106.1, .int r105.1], r106.2, E)) rfl ?_
      refine gv_b hq rfl h 2168 1964 rfl rfl rfl (fun h => ?_) (fun h => ?_)
      · refine gv_n hq 2 (S' := (18, [some (.ref 2001), some (.ref 0), some (.ref 116), some (.int (l3 + (nI 6)))], [], r106.2, E)) rfl ?_
        exact gv_w (K18 _ _ _ _ h) (And.intro rfl (And.intro rfl (And.intro rfl (And.intro rfl trivial))))
      · refine gv_n hq 1 (S' := (1965, [some (.ref 2001), some (.ref 0), some (.ref 116), some (.int l3)], [.int (nI 0)], r106.2, E)) rfl ?_
        cases h
        exact ev_ret hq rfl rfl ⟨rfl, rfl, rfl⟩
    refine gv_if h (fun c56 h => ?_) (fun c56 h => ?_)
    · refine ev_ins hq rfl (S' := (1966, [some (.ref 2001), some (.ref 0), some (.ref 116), some (.int l3)], [], D, E)) (gv_sw (fun z => ((33, [some (.ref 2001), some (.ref 0), some (.ref 116), some (.int l3)], .int z :: [], D, E) : mx_S)) c56 rfl) ?_
      refine gv_n hq 5 (S' := (1971, [some (.ref 2001), some (.ref 0), some (.ref 116), some (.int l3)], [.int (l3 + (nI 1)), .ref 2001, .ref 0], D, E)) rfl ?_
      refine gv_ix hq rfl rfl h 1972 rfl (fun h => ?_)
      obtain ⟨r107, h1, h⟩ := Option.bind_eq_some_iff.mp h
      refine gv_d hq rfl rfl rfl rfl rfl (gv_dd (by omega) (t_X_back X (d - 1) (by omega) E _ _ _ h1)) (S' := (1975, [some (.ref 2001), some (.ref 0), some (.ref 116), some (.int l3)], [.int r107.1], r107.2, E)) rfl ?_
      refine gv_n hq 5 (S' := (1980, [some (.ref 2001), some (.ref 0), some (.ref 116), some (.int l3)], [.int (l3 + (nI 1)), .ref 2001, .ref 116, .int r107.1], r107.2, E)) rfl ?_
      refine gv_ix hq rfl rfl h 1981 rfl (fun h => ?_)
      obtain ⟨r108, h1, h⟩ := Option.bind_eq_some_iff.mp h
      refine gv_d hq rfl rfl rfl rfl rfl (gv_dd (by omega) (t_M_back X F (d - 1) (by omega) E _ _ _ h1)) (S' := (1984, [some (.ref 2001), some (.ref 0), some (.ref 116), some (.int l3)], [.int r108.1, .int r107.1], r108.2, E)) rfl ?_
      refine gv_b hq rfl h 2168 1987 rfl rfl rfl (fun h => ?_) (fun h => ?_)
      · refine gv_n hq 2 (S' := (18, [some (.ref 2001), some (.ref 0), some (.ref 116), some (.int (l3 + (nI 6)))], [], r108.2, E)) rfl ?_
        exact gv_w (K18 _ _ _ _ h) (And.intro rfl (And.intro rfl (And.intro rfl (And.intro rfl trivial))))
      · refine gv_n hq 1 (S' := (1988, [some (.ref 2001), some (.ref 0), some (.ref 116), some (.int l3)], [.int (nI 0)], r108.2, E)) rfl ?_
        cases h
        exact ev_ret hq rfl rfl ⟨rfl, rfl, rfl⟩
    refine gv_if h (fun c57 h => ?_) (fun c57 h => ?_)
    · refine ev_ins hq rfl (S' := (1989, [some (.ref 2001), some (.ref 0), some (.ref 116), some (.int l3)], [], D, E)) (gv_sw (fun z => ((33, [some (.ref 2001), some (.ref 0), some (.ref 116), some (.int l3)], .int z :: [], D, E) : mx_S)) c57 rfl) ?_
      refine gv_n hq 5 (S' := (1994, [some (.ref 2001), some (.ref 0), some (.ref 116), some (.int l3)], [.int (l3 + (nI 1)), .ref 2001, .ref 0], D, E)) rfl ?_
      refine gv_ix hq rfl rfl h 1995 rfl (fun h => ?_)
      refine gv_n hq 4 (S' := (1999, [some (.ref 2001), some (.ref 0), some (.ref 116), some (.int l3)], [.int (l3 + (nI 2)), .ref 2001, .int (X.2 ((l3 + (nI 1))).toNatClampNeg), .ref 0], D, E)) rfl ?_
      refine gv_ix hq rfl rfl h 2000 rfl (fun h => ?_)
      refine gv_n hq 4 (S' := (2004, [some (.ref 2001), some (.ref 0), some (.ref 116), some (.int l3)], [.int (l3 + (nI 3)), .ref 2001, .int (X.2 ((l3 + (nI 2))).toNatClampNeg), .int (X.2 ((l3 + (nI 1))).toNatClampNeg), .ref 0], D, E)) rfl ?_
      refine gv_ix hq rfl rfl h 2005 rfl (fun h => ?_)
      obtain ⟨r109, h1, h⟩ := Option.bind_eq_some_iff.mp h
      refine gv_d hq rfl rfl rfl rfl rfl (gv_dd (by omega) (t_X_row X F (d - 1) (by omega) _ _ _ _ _ _ h1)) (S' := (2008, [some (.ref 2001), some (.ref 0), some (.ref 116), some (.int l3)], [.int r109.1], r109.2.1, r109.2.2)) rfl ?_
      refine gv_n hq 5 (S' := (2013, [some (.ref 2001), some (.ref 0), some (.ref 116), some (.int l3)], [.int (l3 + (nI 1)), .ref 2001, .ref 116, .int r109.1], r109.2.1, r109.2.2)) rfl ?_
      refine gv_ix hq rfl rfl h 2014 rfl (fun h => ?_)
      refine gv_n hq 4 (S' := (2018, [some (.ref 2001), some (.ref 0), some (.ref 116), some (.int l3)], [.int (l3 + (nI 2)), .ref 2001, .int (X.2 ((l3 + (nI 1))).toNatClampNeg), .ref 116, .int r109.1], r109.2.1, r109.2.2)) rfl ?_
      refine gv_ix hq rfl rfl h 2019 rfl (fun h => ?_)
      refine gv_n hq 4 (S' := (2023, [some (.ref 2001), some (.ref 0), some (.ref 116), some (.int l3)], [.int (l3 + (nI 3)), .ref 2001, .int (X.2 ((l3 + (nI 2))).toNatClampNeg), .int (X.2 ((l3 + (nI 1))).toNatClampNeg), .ref 116, .int r109.1], r109.2.1, r109.2.2)) rfl ?_
      refine gv_ix hq rfl rfl h 2024 rfl (fun h => ?_)
      obtain ⟨r110, h1, h⟩ := Option.bind_eq_some_iff.mp h
      refine gv_d hq rfl rfl rfl rfl rfl (gv_dd (by omega) (t_M_row X F (d - 1) (by omega) _ _ _ _ _ _ h1)) (S' := (2027, [some (.ref 2001), some (.ref 0), some (.ref 116), some (.int l3)], [.int r110.1, .int r109.1], r110.2.1, r110.2.2)) rfl ?_
      refine gv_b hq rfl h 2168 2030 rfl rfl rfl (fun h => ?_) (fun h => ?_)
      · refine gv_n hq 2 (S' := (18, [some (.ref 2001), some (.ref 0), some (.ref 116), some (.int (l3 + (nI 6)))], [], r110.2.1, r110.2.2)) rfl ?_
        exact gv_w (K18 _ _ _ _ h) (And.intro rfl (And.intro rfl (And.intro rfl (And.intro rfl trivial))))
      · refine gv_n hq 1 (S' := (2031, [some (.ref 2001), some (.ref 0), some (.ref 116), some (.int l3)], [.int (nI 0)], r110.2.1, r110.2.2)) rfl ?_
        cases h
        exact ev_ret hq rfl rfl ⟨rfl, rfl, rfl⟩
    refine gv_if h (fun c58 h => ?_) (fun c58 h => ?_)
    · refine ev_ins hq rfl (S' := (2032, [some (.ref 2001), some (.ref 0), some (.ref 116), some (.int l3)], [], D, E)) (gv_sw (fun z => ((33, [some (.ref 2001), some (.ref 0), some (.ref 116), some (.int l3)], .int z :: [], D, E) : mx_S)) c58 rfl) ?_
      refine gv_n hq 5 (S' := (2037, [some (.ref 2001), some (.ref 0), some (.ref 116), some (.int l3)], [.int (l3 + (nI 1)), .ref 2001, .ref 0], D, E)) rfl ?_
      refine gv_ix hq rfl rfl h 2038 rfl (fun h => ?_)
      refine gv_n hq 4 (S' := (2042, [some (.ref 2001), some (.ref 0), some (.ref 116), some (.int l3)], [.int (l3 + (nI 2)), .ref 2001, .int (X.2 ((l3 + (nI 1))).toNatClampNeg), .ref 0], D, E)) rfl ?_
      refine gv_ix hq rfl rfl h 2043 rfl (fun h => ?_)
      refine gv_n hq 4 (S' := (2047, [some (.ref 2001), some (.ref 0), some (.ref 116), some (.int l3)], [.int (l3 + (nI 3)), .ref 2001, .int (X.2 ((l3 + (nI 2))).toNatClampNeg), .int (X.2 ((l3 + (nI 1))).toNatClampNeg), .ref 0], D, E)) rfl ?_
      refine gv_ix hq rfl rfl h 2048 rfl (fun h => ?_)
      refine gv_n hq 7 (S' := (2056, [some (.ref 2001), some (.ref 0), some (.ref 116), some (.int l3)], [.int (l3 + (nI 4)), .ref 2001, .long ((((X.2 ((l3 + (nI 3))).toNatClampNeg)).toInt64) <<< (((nI 32)).toInt64 &&& 63)), .int (X.2 ((l3 + (nI 2))).toNatClampNeg), .int (X.2 ((l3 + (nI 1))).toNatClampNeg), .ref 0], D, E)) rfl ?_
      refine gv_ix hq rfl rfl h 2057 rfl (fun h => ?_)
      refine gv_n hq 4 (S' := (2063, [some (.ref 2001), some (.ref 0), some (.ref 116), some (.int l3)], [.long (((((X.2 ((l3 + (nI 3))).toNatClampNeg)).toInt64) <<< (((nI 32)).toInt64 &&& 63)) ||| ((((X.2 ((l3 + (nI 4))).toNatClampNeg)).toInt64) &&& (4294967295 : Int64))), .int (X.2 ((l3 + (nI 2))).toNatClampNeg), .int (X.2 ((l3 + (nI 1))).toNatClampNeg), .ref 0], D, E)) rfl ?_
      obtain ⟨r111, h1, h⟩ := Option.bind_eq_some_iff.mp h
      refine gv_d hq rfl rfl rfl rfl rfl (gv_dd (by omega) (t_X_write X (d - 1) (by omega) D _ _ _ _ _ h1)) (S' := (2066, [some (.ref 2001), some (.ref 0), some (.ref 116), some (.int l3)], [.int r111.1], D, r111.2)) rfl ?_
      refine gv_n hq 5 (S' := (2071, [some (.ref 2001), some (.ref 0), some (.ref 116), some (.int l3)], [.int (l3 + (nI 1)), .ref 2001, .ref 116, .int r111.1], D, r111.2)) rfl ?_
      refine gv_ix hq rfl rfl h 2072 rfl (fun h => ?_)
      refine gv_n hq 4 (S' := (2076, [some (.ref 2001), some (.ref 0), some (.ref 116), some (.int l3)], [.int (l3 + (nI 2)), .ref 2001, .int (X.2 ((l3 + (nI 1))).toNatClampNeg), .ref 116, .int r111.1], D, r111.2)) rfl ?_
      refine gv_ix hq rfl rfl h 2077 rfl (fun h => ?_)
      refine gv_n hq 4 (S' := (2081, [some (.ref 2001), some (.ref 0), some (.ref 116), some (.int l3)], [.int (l3 + (nI 3)), .ref 2001, .int (X.2 ((l3 + (nI 2))).toNatClampNeg), .int (X.2 ((l3 + (nI 1))).toNatClampNeg), .ref 116, .int r111.1], D, r111.2)) rfl ?_
      refine gv_ix hq rfl rfl h 2082 rfl (fun h => ?_)
      refine gv_n hq 7 (S' := (2090, [some (.ref 2001), some (.ref 0), some (.ref 116), some (.int l3)], [.int (l3 + (nI 4)), .ref 2001, .long ((((X.2 ((l3 + (nI 3))).toNatClampNeg)).toInt64) <<< (((nI 32)).toInt64 &&& 63)), .int (X.2 ((l3 + (nI 2))).toNatClampNeg), .int (X.2 ((l3 + (nI 1))).toNatClampNeg), .ref 116, .int r111.1], D, r111.2)) rfl ?_
      refine gv_ix hq rfl rfl h 2091 rfl (fun h => ?_)
      refine gv_n hq 4 (S' := (2097, [some (.ref 2001), some (.ref 0), some (.ref 116), some (.int l3)], [.long (((((X.2 ((l3 + (nI 3))).toNatClampNeg)).toInt64) <<< (((nI 32)).toInt64 &&& 63)) ||| ((((X.2 ((l3 + (nI 4))).toNatClampNeg)).toInt64) &&& (4294967295 : Int64))), .int (X.2 ((l3 + (nI 2))).toNatClampNeg), .int (X.2 ((l3 + (nI 1))).toNatClampNeg), .ref 116, .int r111.1], D, r111.2)) rfl ?_
      obtain ⟨r112, h1, h⟩ := Option.bind_eq_some_iff.mp h
      refine gv_d hq rfl rfl rfl rfl rfl (gv_dd (by omega) (t_M_write X (d - 1) (by omega) D _ _ _ _ _ h1)) (S' := (2100, [some (.ref 2001), some (.ref 0), some (.ref 116), some (.int l3)], [.int r112.1, .int r111.1], D, r112.2)) rfl ?_
      refine gv_b hq rfl h 2168 2103 rfl rfl rfl (fun h => ?_) (fun h => ?_)
      · refine gv_n hq 2 (S' := (18, [some (.ref 2001), some (.ref 0), some (.ref 116), some (.int (l3 + (nI 6)))], [], D, r112.2)) rfl ?_
        exact gv_w (K18 _ _ _ _ h) (And.intro rfl (And.intro rfl (And.intro rfl (And.intro rfl trivial))))
      · refine gv_n hq 1 (S' := (2104, [some (.ref 2001), some (.ref 0), some (.ref 116), some (.int l3)], [.int (nI 0)], D, r112.2)) rfl ?_
        cases h
        exact ev_ret hq rfl rfl ⟨rfl, rfl, rfl⟩
    refine gv_if h (fun c59 h => ?_) (fun c59 h => ?_)
    · refine ev_ins hq rfl (S' := (2105, [some (.ref 2001), some (.ref 0), some (.ref 116), some (.int l3)], [], D, E)) (gv_sw (fun z => ((33, [some (.ref 2001), some (.ref 0), some (.ref 116), some (.int l3)], .int z :: [], D, E) : mx_S)) c59 rfl) ?_
      refine gv_n hq 5 (S' := (2110, [some (.ref 2001), some (.ref 0), some (.ref 116), some (.int l3)], [.int (l3 + (nI 1)), .ref 2001, .ref 0], D, E)) rfl ?_
      refine gv_ix hq rfl rfl h 2111 rfl (fun h => ?_)
      refine gv_n hq 4 (S' := (2115, [some (.ref 2001), some (.ref 0), some (.ref 116), some (.int l3)], [.int (l3 + (nI 2)), .ref 2001, .int (X.2 ((l3 + (nI 1))).toNatClampNeg), .ref 0], D, E)) rfl ?_
      refine gv_ix hq rfl rfl h 2116 rfl (fun h => ?_)
      refine gv_n hq 4 (S' := (2120, [some (.ref 2001), some (.ref 0), some (.ref 116), some (.int l3)], [.int (l3 + (nI 3)), .ref 2001, .int (X.2 ((l3 + (nI 2))).toNatClampNeg), .int (X.2 ((l3 + (nI 1))).toNatClampNeg), .ref 0], D, E)) rfl ?_
      refine gv_ix hq rfl rfl h 2121 rfl (fun h => ?_)
      refine gv_n hq 4 (S' := (2125, [some (.ref 2001), some (.ref 0), some (.ref 116), some (.int l3)], [.int (l3 + (nI 4)), .ref 2001, .int (X.2 ((l3 + (nI 3))).toNatClampNeg), .int (X.2 ((l3 + (nI 2))).toNatClampNeg), .int (X.2 ((l3 + (nI 1))).toNatClampNeg), .ref 0], D, E)) rfl ?_
      refine gv_ix hq rfl rfl h 2126 rfl (fun h => ?_)
      refine gv_n hq 4 (S' := (2130, [some (.ref 2001), some (.ref 0), some (.ref 116), some (.int l3)], [.int (l3 + (nI 5)), .ref 2001, .int (X.2 ((l3 + (nI 4))).toNatClampNeg), .int (X.2 ((l3 + (nI 3))).toNatClampNeg), .int (X.2 ((l3 + (nI 2))).toNatClampNeg), .int (X.2 ((l3 + (nI 1))).toNatClampNeg), .ref 0], D, E)) rfl ?_
      refine gv_ix hq rfl rfl h 2131 rfl (fun h => ?_)
      obtain ⟨r113, h1, h⟩ := Option.bind_eq_some_iff.mp h
      refine gv_d hq rfl rfl rfl rfl rfl (gv_dd (by omega) (t_X_paste X (d - 1) (by omega) D _ _ _ _ _ _ _ h1)) (S' := (2134, [some (.ref 2001), some (.ref 0), some (.ref 116), some (.int l3)], [.int r113.1], D, r113.2)) rfl ?_
      refine gv_n hq 5 (S' := (2139, [some (.ref 2001), some (.ref 0), some (.ref 116), some (.int l3)], [.int (l3 + (nI 1)), .ref 2001, .ref 116, .int r113.1], D, r113.2)) rfl ?_
      refine gv_ix hq rfl rfl h 2140 rfl (fun h => ?_)
      refine gv_n hq 4 (S' := (2144, [some (.ref 2001), some (.ref 0), some (.ref 116), some (.int l3)], [.int (l3 + (nI 2)), .ref 2001, .int (X.2 ((l3 + (nI 1))).toNatClampNeg), .ref 116, .int r113.1], D, r113.2)) rfl ?_
      refine gv_ix hq rfl rfl h 2145 rfl (fun h => ?_)
      refine gv_n hq 4 (S' := (2149, [some (.ref 2001), some (.ref 0), some (.ref 116), some (.int l3)], [.int (l3 + (nI 3)), .ref 2001, .int (X.2 ((l3 + (nI 2))).toNatClampNeg), .int (X.2 ((l3 + (nI 1))).toNatClampNeg), .ref 116, .int r113.1], D, r113.2)) rfl ?_
      refine gv_ix hq rfl rfl h 2150 rfl (fun h => ?_)
      refine gv_n hq 4 (S' := (2154, [some (.ref 2001), some (.ref 0), some (.ref 116), some (.int l3)], [.int (l3 + (nI 4)), .ref 2001, .int (X.2 ((l3 + (nI 3))).toNatClampNeg), .int (X.2 ((l3 + (nI 2))).toNatClampNeg), .int (X.2 ((l3 + (nI 1))).toNatClampNeg), .ref 116, .int r113.1], D, r113.2)) rfl ?_
      refine gv_ix hq rfl rfl h 2155 rfl (fun h => ?_)
      refine gv_n hq 4 (S' := (2159, [some (.ref 2001), some (.ref 0), some (.ref 116), some (.int l3)], [.int (l3 + (nI 5)), .ref 2001, .int (X.2 ((l3 + (nI 4))).toNatClampNeg), .int (X.2 ((l3 + (nI 3))).toNatClampNeg), .int (X.2 ((l3 + (nI 2))).toNatClampNeg), .int (X.2 ((l3 + (nI 1))).toNatClampNeg), .ref 116, .int r113.1], D, r113.2)) rfl ?_
      refine gv_ix hq rfl rfl h 2160 rfl (fun h => ?_)
      obtain ⟨r114, h1, h⟩ := Option.bind_eq_some_iff.mp h
      refine gv_d hq rfl rfl rfl rfl rfl (gv_dd (by omega) (t_M_paste X F (d - 1) (by omega) D _ _ _ _ _ _ _ h1)) (S' := (2163, [some (.ref 2001), some (.ref 0), some (.ref 116), some (.int l3)], [.int r114.1, .int r113.1], D, r114.2)) rfl ?_
      refine gv_b hq rfl h 2168 2166 rfl rfl rfl (fun h => ?_) (fun h => ?_)
      · refine gv_n hq 2 (S' := (18, [some (.ref 2001), some (.ref 0), some (.ref 116), some (.int (l3 + (nI 6)))], [], D, r114.2)) rfl ?_
        exact gv_w (K18 _ _ _ _ h) (And.intro rfl (And.intro rfl (And.intro rfl (And.intro rfl trivial))))
      · refine gv_n hq 1 (S' := (2167, [some (.ref 2001), some (.ref 0), some (.ref 116), some (.int l3)], [.int (nI 0)], D, r114.2)) rfl ?_
        cases h
        exact ev_ret hq rfl rfl ⟨rfl, rfl, rfl⟩
    refine ev_ins hq rfl (S' := (2168, [some (.ref 2001), some (.ref 0), some (.ref 116), some (.int l3)], [], D, E)) (gv_swd (x := ((X.2 (l3).toNatClampNeg) &&& (nI 63))) (n := 60) (fun z => ((33, [some (.ref 2001), some (.ref 0), some (.ref 116), some (.int l3)], .int z :: [], D, E) : mx_S)) ⟨⟨⟨⟨⟨⟨⟨⟨⟨⟨⟨⟨⟨⟨⟨⟨⟨⟨⟨⟨⟨⟨⟨⟨⟨⟨⟨⟨⟨⟨⟨⟨⟨⟨⟨⟨⟨⟨⟨⟨⟨⟨⟨⟨⟨⟨⟨⟨⟨⟨⟨⟨⟨⟨⟨⟨⟨⟨⟨⟨trivial, c0⟩, c1⟩, c2⟩, c3⟩, c4⟩, c5⟩, c6⟩, c7⟩, c8⟩, c9⟩, c10⟩, c11⟩, c12⟩, c13⟩, c14⟩, c15⟩, c16⟩, c17⟩, c18⟩, c19⟩, c20⟩, c21⟩, c22⟩, c23⟩, c24⟩, c25⟩, c26⟩, c27⟩, c28⟩, c29⟩, c30⟩, c31⟩, c32⟩, c33⟩, c34⟩, c35⟩, c36⟩, c37⟩, c38⟩, c39⟩, c40⟩, c41⟩, c42⟩, c43⟩, c44⟩, c45⟩, c46⟩, c47⟩, c48⟩, c49⟩, c50⟩, c51⟩, c52⟩, c53⟩, c54⟩, c55⟩, c56⟩, c57⟩, c58⟩, c59⟩ (m := 59) rfl rfl rfl) ?_
    refine gv_n hq 2 (S' := (18, [some (.ref 2001), some (.ref 0), some (.ref 116), some (.int (l3 + (nI 6)))], [], D, E)) rfl ?_
    exact gv_w (K18 _ _ _ _ h) (And.intro rfl (And.intro rfl (And.intro rfl (And.intro rfl trivial))))
def g_law_18 (F : Nat) (X : ev_X) : Nat → Int32 → mx_D → mx_E → Option (Int32 × mx_D × mx_E) := it (fun k18 => b_law_18 F X k18) (fun _ _ _ => none)
set_option maxRecDepth 100000 in
set_option maxHeartbeats 4000000 in
theorem t_law_18 (X : ev_X) (F : Nat) (d : Nat) (hd : 105 ≤ d + 1)  : ∀ (n : Nat) (l3 : Int32) (D : mx_D) (E : mx_E) (v : Int32 × mx_D × mx_E), g_law_18 F X n l3 D E = some v → ev X (d + 1) 337 (18, [some (.ref 2001), some (.ref 0), some (.ref 116), some (.int l3)], [], D, E) (qR (some (.int v.1)) v.2.1 v.2.2) := by
  intro n
  induction n with
  | zero => intro l3 D E v h; cases h
  | succ n ih => intro l3 D E v h; exact tb_law_18 X F d hd (g_law_18 F X n) ih l3 D E v h
def g_law (F : Nat) (X : ev_X) (D : mx_D) (E : mx_E) : Option (Int32 × mx_D × mx_E) := (g_law_18 F X F (nI 0) D E)
set_option maxRecDepth 100000 in
set_option maxHeartbeats 4000000 in
theorem t_law (X : ev_X) (F : Nat) (d : Nat) (hd : 105 ≤ d + 1) (D : mx_D) (E : mx_E) (v : Int32 × mx_D × mx_E) (h : g_law F X D E = some v) : ev X (d + 1) 337 (16, [some (.ref 2001), some (.ref 0), some (.ref 116), none], [], D, E) (qR (some (.int v.1)) v.2.1 v.2.2) := by
  have hq : kq_m 337 = some kq_q337 := rfl
  unfold g_law at h
  refine gv_n hq 2 (S' := (18, [some (.ref 2001), some (.ref 0), some (.ref 116), some (.int (nI 0))], [], D, E)) rfl ?_
  exact gv_w (t_law_18 X F d hd F _ _ _ _ h) (And.intro rfl (And.intro rfl (And.intro rfl (And.intro rfl trivial))))
