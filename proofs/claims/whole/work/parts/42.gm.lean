/-! ===== pictures of the methods and the rows that tie them to their frames, printed by a program of mine ===== -/
def b_M_paste_150 (F : Nat) (D : mx_D) (k150 : Int32 → Int32 → Int32 → Int32 → mx_E → Option (Int32 × mx_E)) (l3 : Int32) (l4 : Int32) (l5 : Int32) (l6 : Int32) (E : mx_E) : Option (Int32 × mx_E) := (if l5 ≤ l6 then (some ((nI 0), E)) else (rk 60 l6 (rk 240 ((((nI 60) * l3) + l4) + l6) (k150 l3 l4 l5 (l6 + (nI 1)) (sE E 139 (((((nI 60) * l3) + l4) + l6)).toNatClampNeg (E 140 (l6).toNatClampNeg))))))
set_option maxRecDepth 100000 in
set_option maxHeartbeats 4000000 in
theorem tb_M_paste_150 (X : ev_X) (F : Nat) (d : Nat) (hd : 2 ≤ d + 1) (D : mx_D) (k150 : Int32 → Int32 → Int32 → Int32 → mx_E → Option (Int32 × mx_E)) (K150 : ∀ (l3 : Int32) (l4 : Int32) (l5 : Int32) (l6 : Int32) (E : mx_E) (v : Int32 × mx_E), k150 l3 l4 l5 l6 E = some v → ev X (d + 1) 331 (150, [some (.ref 116), none, none, some (.int l3), some (.int l4), some (.int l5), some (.int l6)], [], D, E) (qR (some (.int v.1)) D v.2)) (l3 : Int32) (l4 : Int32) (l5 : Int32) (l6 : Int32) (E : mx_E) (v : Int32 × mx_E) (h : b_M_paste_150 F D k150 l3 l4 l5 l6 E = some v) : ev X (d + 1) 331 (150, [some (.ref 116), none, none, some (.int l3), some (.int l4), some (.int l5), some (.int l6)], [], D, E) (qR (some (.int v.1)) D v.2) := by
  have hq : kq_m 331 = some kq_q331 := rfl
  unfold b_M_paste_150 at h
  refine gv_n hq 2 (S' := (154, [some (.ref 116), none, none, some (.int l3), some (.int l4), some (.int l5), some (.int l6)], [.int l5, .int l6], D, E)) rfl ?_
  refine gv_b hq rfl h 185 157 rfl rfl rfl (fun h => ?_) (fun h => ?_)
  · refine gv_n hq 1 (S' := (186, [some (.ref 116), none, none, some (.int l3), some (.int l4), some (.int l5), some (.int l6)], [.int (nI 0)], D, E)) rfl ?_
    cases h
    exact ev_ret hq rfl rfl ⟨rfl, rfl, rfl⟩
  · refine gv_n hq 12 (S' := (177, [some (.ref 116), none, none, some (.int l3), some (.int l4), some (.int l5), some (.int l6)], [.int l6, .ref 140, .int ((((nI 60) * l3) + l4) + l6), .ref 139], D, E)) rfl ?_
    refine gv_la hq rfl rfl h 178 rfl (fun h => ?_)
    refine gv_ls hq rfl rfl h 179 rfl (fun h => ?_)
    refine gv_n hq 2 (S' := (150, [some (.ref 116), none, none, some (.int l3), some (.int l4), some (.int l5), some (.int (l6 + (nI 1)))], [], D, (sE E 139 (((((nI 60) * l3) + l4) + l6)).toNatClampNeg (E 140 (l6).toNatClampNeg)))) rfl ?_
    exact gv_w (K150 _ _ _ _ _ _ h) (And.intro rfl (And.intro rfl (And.intro rfl (And.intro rfl (And.intro rfl trivial)))))
def g_M_paste_150 (F : Nat) (D : mx_D) : Nat → Int32 → Int32 → Int32 → Int32 → mx_E → Option (Int32 × mx_E) := it (fun k150 => b_M_paste_150 F D k150) (fun _ _ _ _ _ => none)
set_option maxRecDepth 100000 in
set_option maxHeartbeats 4000000 in
theorem t_M_paste_150 (X : ev_X) (F : Nat) (d : Nat) (hd : 2 ≤ d + 1) (D : mx_D)  : ∀ (n : Nat) (l3 : Int32) (l4 : Int32) (l5 : Int32) (l6 : Int32) (E : mx_E) (v : Int32 × mx_E), g_M_paste_150 F D n l3 l4 l5 l6 E = some v → ev X (d + 1) 331 (150, [some (.ref 116), none, none, some (.int l3), some (.int l4), some (.int l5), some (.int l6)], [], D, E) (qR (some (.int v.1)) D v.2) := by
  intro n
  induction n with
  | zero => intro l3 l4 l5 l6 E v h; cases h
  | succ n ih => intro l3 l4 l5 l6 E v h; exact tb_M_paste_150 X F d hd D (g_M_paste_150 F D n) ih l3 l4 l5 l6 E v h
def b_M_paste_113 (F : Nat) (D : mx_D) (k113 : Int32 → Int32 → Int32 → Int32 → Int32 → Int32 → mx_E → Option (Int32 × mx_E)) (l1 : Int32) (l2 : Int32) (l3 : Int32) (l4 : Int32) (l5 : Int32) (l6 : Int32) (E : mx_E) : Option (Int32 × mx_E) := (if l5 ≤ l6 then (g_M_paste_150 F D F l3 l4 l5 (nI 0) E) else (rk 240 ((((nI 60) * l1) + l2) + l6) (rk 60 l6 (k113 l1 l2 l3 l4 l5 (l6 + (nI 1)) (sE E 140 (l6).toNatClampNeg (E 139 (((((nI 60) * l1) + l2) + l6)).toNatClampNeg))))))
set_option maxRecDepth 100000 in
set_option maxHeartbeats 4000000 in
theorem tb_M_paste_113 (X : ev_X) (F : Nat) (d : Nat) (hd : 2 ≤ d + 1) (D : mx_D) (k113 : Int32 → Int32 → Int32 → Int32 → Int32 → Int32 → mx_E → Option (Int32 × mx_E)) (K113 : ∀ (l1 : Int32) (l2 : Int32) (l3 : Int32) (l4 : Int32) (l5 : Int32) (l6 : Int32) (E : mx_E) (v : Int32 × mx_E), k113 l1 l2 l3 l4 l5 l6 E = some v → ev X (d + 1) 331 (113, [some (.ref 116), some (.int l1), some (.int l2), some (.int l3), some (.int l4), some (.int l5), some (.int l6)], [], D, E) (qR (some (.int v.1)) D v.2)) (l1 : Int32) (l2 : Int32) (l3 : Int32) (l4 : Int32) (l5 : Int32) (l6 : Int32) (E : mx_E) (v : Int32 × mx_E) (h : b_M_paste_113 F D k113 l1 l2 l3 l4 l5 l6 E = some v) : ev X (d + 1) 331 (113, [some (.ref 116), some (.int l1), some (.int l2), some (.int l3), some (.int l4), some (.int l5), some (.int l6)], [], D, E) (qR (some (.int v.1)) D v.2) := by
  have hq : kq_m 331 = some kq_q331 := rfl
  unfold b_M_paste_113 at h
  refine gv_n hq 2 (S' := (117, [some (.ref 116), some (.int l1), some (.int l2), some (.int l3), some (.int l4), some (.int l5), some (.int l6)], [.int l5, .int l6], D, E)) rfl ?_
  refine gv_b hq rfl h 147 120 rfl rfl rfl (fun h => ?_) (fun h => ?_)
  · refine gv_n hq 2 (S' := (150, [some (.ref 116), some (.int l1), some (.int l2), some (.int l3), some (.int l4), some (.int l5), some (.int (nI 0))], [], D, E)) rfl ?_
    exact gv_w (t_M_paste_150 X F d hd D F _ _ _ _ _ _ h) (And.intro rfl (And.intro rfl (And.intro rfl (And.intro rfl (And.intro rfl trivial)))))
  · refine gv_n hq 12 (S' := (139, [some (.ref 116), some (.int l1), some (.int l2), some (.int l3), some (.int l4), some (.int l5), some (.int l6)], [.int ((((nI 60) * l1) + l2) + l6), .ref 139, .int l6, .ref 140], D, E)) rfl ?_
    refine gv_la hq rfl rfl h 140 rfl (fun h => ?_)
    refine gv_ls hq rfl rfl h 141 rfl (fun h => ?_)
    refine gv_n hq 2 (S' := (113, [some (.ref 116), some (.int l1), some (.int l2), some (.int l3), some (.int l4), some (.int l5), some (.int (l6 + (nI 1)))], [], D, (sE E 140 (l6).toNatClampNeg (E 139 (((((nI 60) * l1) + l2) + l6)).toNatClampNeg)))) rfl ?_
    exact gv_w (K113 _ _ _ _ _ _ _ _ h) (And.intro rfl (And.intro rfl (And.intro rfl (And.intro rfl (And.intro rfl (And.intro rfl (And.intro rfl trivial)))))))
def g_M_paste_113 (F : Nat) (D : mx_D) : Nat → Int32 → Int32 → Int32 → Int32 → Int32 → Int32 → mx_E → Option (Int32 × mx_E) := it (fun k113 => b_M_paste_113 F D k113) (fun _ _ _ _ _ _ _ => none)
set_option maxRecDepth 100000 in
set_option maxHeartbeats 4000000 in
theorem t_M_paste_113 (X : ev_X) (F : Nat) (d : Nat) (hd : 2 ≤ d + 1) (D : mx_D)  : ∀ (n : Nat) (l1 : Int32) (l2 : Int32) (l3 : Int32) (l4 : Int32) (l5 : Int32) (l6 : Int32) (E : mx_E) (v : Int32 × mx_E), g_M_paste_113 F D n l1 l2 l3 l4 l5 l6 E = some v → ev X (d + 1) 331 (113, [some (.ref 116), some (.int l1), some (.int l2), some (.int l3), some (.int l4), some (.int l5), some (.int l6)], [], D, E) (qR (some (.int v.1)) D v.2) := by
  intro n
  induction n with
  | zero => intro l1 l2 l3 l4 l5 l6 E v h; cases h
  | succ n ih => intro l1 l2 l3 l4 l5 l6 E v h; exact tb_M_paste_113 X F d hd D (g_M_paste_113 F D n) ih l1 l2 l3 l4 l5 l6 E v h
def g_M_paste (F : Nat) (D : mx_D) (a1 : Int32) (a2 : Int32) (a3 : Int32) (a4 : Int32) (a5 : Int32) (E : mx_E) : Option (Int32 × mx_E) := (if (g_M_isSlot a1) = 0 then (some ((-2 : Int32), E)) else (if (g_M_isSlot a3) = 0 then (some ((-2 : Int32), E)) else (rk 4 a1 (if (D 137 (a1).toNatClampNeg) = (-1 : Int32) then (some ((-6 : Int32), E)) else (rk 4 a3 (if (D 137 (a3).toNatClampNeg) = (-1 : Int32) then (some ((-6 : Int32), E)) else (rk 4 a1 (rk 4 a3 (if (D 138 (a1).toNatClampNeg) = (D 138 (a3).toNatClampNeg) then (if a2 < 0 then (some ((-7 : Int32), E)) else (if a4 < 0 then (some ((-7 : Int32), E)) else (if a5 < 0 then (some ((-7 : Int32), E)) else (rk 4 a1 (if 0 < (lg_cmp (((a2).toInt64) + ((a5).toInt64)) (((D 137 (a1).toNatClampNeg)).toInt64)) then (some ((-7 : Int32), E)) else (rk 4 a3 (if (lg_cmp (((a4).toInt64) + ((a5).toInt64)) (((D 137 (a3).toNatClampNeg)).toInt64)) ≤ 0 then (g_M_paste_113 F D F a1 a2 a3 a4 a5 (nI 0) E) else (some ((-7 : Int32), E))))))))) else (some ((-8 : Int32), E)))))))))))
set_option maxRecDepth 100000 in
set_option maxHeartbeats 4000000 in
theorem t_M_paste (X : ev_X) (F : Nat) (d : Nat) (hd : 2 ≤ d + 1) (D : mx_D) (a1 : Int32) (a2 : Int32) (a3 : Int32) (a4 : Int32) (a5 : Int32) (E : mx_E) (v : Int32 × mx_E) (h : g_M_paste F D a1 a2 a3 a4 a5 E = some v) : ev X (d + 1) 331 (0, [some (.ref 116), some (.int a1), some (.int a2), some (.int a3), some (.int a4), some (.int a5), none], [], D, E) (qR (some (.int v.1)) D v.2) := by
  have hq : kq_m 331 = some kq_q331 := rfl
  unfold g_M_paste at h
  refine gv_n hq 1 (S' := (1, [some (.ref 116), some (.int a1), some (.int a2), some (.int a3), some (.int a4), some (.int a5), none], [.int a1], D, E)) rfl ?_
  refine gv_d hq rfl rfl rfl rfl rfl (gv_dd (by omega) (t_M_isSlot X (d - 1) (by omega) D E _ _ rfl)) (S' := (4, [some (.ref 116), some (.int a1), some (.int a2), some (.int a3), some (.int a4), some (.int a5), none], [.int (g_M_isSlot a1)], D, E)) rfl ?_
  refine gv_b hq rfl h 14 7 rfl rfl rfl (fun h => ?_) (fun h => ?_)
  · refine gv_n hq 1 (S' := (16, [some (.ref 116), some (.int a1), some (.int a2), some (.int a3), some (.int a4), some (.int a5), none], [.int (-2 : Int32)], D, E)) rfl ?_
    cases h
    exact ev_ret hq rfl rfl ⟨rfl, rfl, rfl⟩
  · refine gv_n hq 1 (S' := (8, [some (.ref 116), some (.int a1), some (.int a2), some (.int a3), some (.int a4), some (.int a5), none], [.int a3], D, E)) rfl ?_
    refine gv_d hq rfl rfl rfl rfl rfl (gv_dd (by omega) (t_M_isSlot X (d - 1) (by omega) D E _ _ rfl)) (S' := (11, [some (.ref 116), some (.int a1), some (.int a2), some (.int a3), some (.int a4), some (.int a5), none], [.int (g_M_isSlot a3)], D, E)) rfl ?_
    refine gv_b hq rfl h 14 17 rfl rfl rfl (fun h => ?_) (fun h => ?_)
    · refine gv_n hq 1 (S' := (16, [some (.ref 116), some (.int a1), some (.int a2), some (.int a3), some (.int a4), some (.int a5), none], [.int (-2 : Int32)], D, E)) rfl ?_
      cases h
      exact ev_ret hq rfl rfl ⟨rfl, rfl, rfl⟩
    · refine gv_n hq 3 (S' := (22, [some (.ref 116), some (.int a1), some (.int a2), some (.int a3), some (.int a4), some (.int a5), none], [.int a1, .ref 137], D, E)) rfl ?_
      refine gv_ia hq rfl rfl rfl h 23 rfl (fun h => ?_)
      refine gv_n hq 1 (S' := (24, [some (.ref 116), some (.int a1), some (.int a2), some (.int a3), some (.int a4), some (.int a5), none], [.int (-1 : Int32), .int (D 137 (a1).toNatClampNeg)], D, E)) rfl ?_
      refine gv_b hq rfl h 37 27 rfl rfl rfl (fun h => ?_) (fun h => ?_)
      · refine gv_n hq 1 (S' := (39, [some (.ref 116), some (.int a1), some (.int a2), some (.int a3), some (.int a4), some (.int a5), none], [.int (-6 : Int32)], D, E)) rfl ?_
        cases h
        exact ev_ret hq rfl rfl ⟨rfl, rfl, rfl⟩
      · refine gv_n hq 3 (S' := (32, [some (.ref 116), some (.int a1), some (.int a2), some (.int a3), some (.int a4), some (.int a5), none], [.int a3, .ref 137], D, E)) rfl ?_
        refine gv_ia hq rfl rfl rfl h 33 rfl (fun h => ?_)
        refine gv_n hq 1 (S' := (34, [some (.ref 116), some (.int a1), some (.int a2), some (.int a3), some (.int a4), some (.int a5), none], [.int (-1 : Int32), .int (D 137 (a3).toNatClampNeg)], D, E)) rfl ?_
        refine gv_b hq rfl h 37 40 rfl rfl rfl (fun h => ?_) (fun h => ?_)
        · refine gv_n hq 1 (S' := (39, [some (.ref 116), some (.int a1), some (.int a2), some (.int a3), some (.int a4), some (.int a5), none], [.int (-6 : Int32)], D, E)) rfl ?_
          cases h
          exact ev_ret hq rfl rfl ⟨rfl, rfl, rfl⟩
        · refine gv_n hq 3 (S' := (45, [some (.ref 116), some (.int a1), some (.int a2), some (.int a3), some (.int a4), some (.int a5), none], [.int a1, .ref 138], D, E)) rfl ?_
          refine gv_ia hq rfl rfl rfl h 46 rfl (fun h => ?_)
          refine gv_n hq 3 (S' := (51, [some (.ref 116), some (.int a1), some (.int a2), some (.int a3), some (.int a4), some (.int a5), none], [.int a3, .ref 138, .int (D 138 (a1).toNatClampNeg)], D, E)) rfl ?_
          refine gv_ia hq rfl rfl rfl h 52 rfl (fun h => ?_)
          refine gv_b hq rfl h 58 55 rfl rfl rfl (fun h => ?_) (fun h => ?_)
          · refine gv_n hq 1 (S' := (59, [some (.ref 116), some (.int a1), some (.int a2), some (.int a3), some (.int a4), some (.int a5), none], [.int a2], D, E)) rfl ?_
            refine gv_b hq rfl h 107 62 rfl rfl rfl (fun h => ?_) (fun h => ?_)
            · refine gv_n hq 1 (S' := (109, [some (.ref 116), some (.int a1), some (.int a2), some (.int a3), some (.int a4), some (.int a5), none], [.int (-7 : Int32)], D, E)) rfl ?_
              cases h
              exact ev_ret hq rfl rfl ⟨rfl, rfl, rfl⟩
            · refine gv_n hq 1 (S' := (64, [some (.ref 116), some (.int a1), some (.int a2), some (.int a3), some (.int a4), some (.int a5), none], [.int a4], D, E)) rfl ?_
              refine gv_b hq rfl h 107 67 rfl rfl rfl (fun h => ?_) (fun h => ?_)
              · refine gv_n hq 1 (S' := (109, [some (.ref 116), some (.int a1), some (.int a2), some (.int a3), some (.int a4), some (.int a5), none], [.int (-7 : Int32)], D, E)) rfl ?_
                cases h
                exact ev_ret hq rfl rfl ⟨rfl, rfl, rfl⟩
              · refine gv_n hq 1 (S' := (69, [some (.ref 116), some (.int a1), some (.int a2), some (.int a3), some (.int a4), some (.int a5), none], [.int a5], D, E)) rfl ?_
                refine gv_b hq rfl h 107 72 rfl rfl rfl (fun h => ?_) (fun h => ?_)
                · refine gv_n hq 1 (S' := (109, [some (.ref 116), some (.int a1), some (.int a2), some (.int a3), some (.int a4), some (.int a5), none], [.int (-7 : Int32)], D, E)) rfl ?_
                  cases h
                  exact ev_ret hq rfl rfl ⟨rfl, rfl, rfl⟩
                · refine gv_n hq 8 (S' := (83, [some (.ref 116), some (.int a1), some (.int a2), some (.int a3), some (.int a4), some (.int a5), none], [.int a1, .ref 137, .long (((a2).toInt64) + ((a5).toInt64))], D, E)) rfl ?_
                  refine gv_ia hq rfl rfl rfl h 84 rfl (fun h => ?_)
                  refine gv_n hq 2 (S' := (86, [some (.ref 116), some (.int a1), some (.int a2), some (.int a3), some (.int a4), some (.int a5), none], [.int (lg_cmp (((a2).toInt64) + ((a5).toInt64)) (((D 137 (a1).toNatClampNeg)).toInt64))], D, E)) rfl ?_
                  refine gv_b hq rfl h 107 89 rfl rfl rfl (fun h => ?_) (fun h => ?_)
                  · refine gv_n hq 1 (S' := (109, [some (.ref 116), some (.int a1), some (.int a2), some (.int a3), some (.int a4), some (.int a5), none], [.int (-7 : Int32)], D, E)) rfl ?_
                    cases h
                    exact ev_ret hq rfl rfl ⟨rfl, rfl, rfl⟩
                  · refine gv_n hq 8 (S' := (101, [some (.ref 116), some (.int a1), some (.int a2), some (.int a3), some (.int a4), some (.int a5), none], [.int a3, .ref 137, .long (((a4).toInt64) + ((a5).toInt64))], D, E)) rfl ?_
                    refine gv_ia hq rfl rfl rfl h 102 rfl (fun h => ?_)
                    refine gv_n hq 2 (S' := (104, [some (.ref 116), some (.int a1), some (.int a2), some (.int a3), some (.int a4), some (.int a5), none], [.int (lg_cmp (((a4).toInt64) + ((a5).toInt64)) (((D 137 (a3).toNatClampNeg)).toInt64))], D, E)) rfl ?_
                    refine gv_b hq rfl h 110 107 rfl rfl rfl (fun h => ?_) (fun h => ?_)
                    · refine gv_n hq 2 (S' := (113, [some (.ref 116), some (.int a1), some (.int a2), some (.int a3), some (.int a4), some (.int a5), some (.int (nI 0))], [], D, E)) rfl ?_
                      exact gv_w (t_M_paste_113 X F d hd D F _ _ _ _ _ _ _ _ h) (And.intro rfl (And.intro rfl (And.intro rfl (And.intro rfl (And.intro rfl (And.intro rfl (And.intro rfl trivial)))))))
                    · refine gv_n hq 1 (S' := (109, [some (.ref 116), some (.int a1), some (.int a2), some (.int a3), some (.int a4), some (.int a5), none], [.int (-7 : Int32)], D, E)) rfl ?_
                      cases h
                      exact ev_ret hq rfl rfl ⟨rfl, rfl, rfl⟩
          · refine gv_n hq 1 (S' := (57, [some (.ref 116), some (.int a1), some (.int a2), some (.int a3), some (.int a4), some (.int a5), none], [.int (-8 : Int32)], D, E)) rfl ?_
            cases h
            exact ev_ret hq rfl rfl ⟨rfl, rfl, rfl⟩
