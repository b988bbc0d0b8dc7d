/-! ===== pictures of the methods and the rows that tie them to their frames, printed by a program of mine ===== -/
def b_Sightings_countWays_95 (F : Nat) (k95 : Int32 → Int32 → Int32 → mx_D → Option (Int32 × mx_D)) (l1 : Int32) (l2 : Int32) (l3 : Int32) (D : mx_D) : Option (Int32 × mx_D) := (if l1 ≤ l3 then (some (l2, D)) else (if (g_Integer_bitCount l3) = (D 57 0) then (rk 256 l3 (k95 l1 (l2 + (D 59 (l3).toNatClampNeg)) (l3 + (nI 1)) D)) else (k95 l1 (l2 + (nI 0)) (l3 + (nI 1)) D)))
set_option maxRecDepth 100000 in
set_option maxHeartbeats 4000000 in
theorem tb_Sightings_countWays_95 (X : ev_X) (F : Nat) (d : Nat) (hd : 1 ≤ d + 1) (E : mx_E) (k95 : Int32 → Int32 → Int32 → mx_D → Option (Int32 × mx_D)) (K95 : ∀ (l1 : Int32) (l2 : Int32) (l3 : Int32) (D : mx_D) (v : Int32 × mx_D), k95 l1 l2 l3 D = some v → ev X (d + 1) 97 (95, [some (.ref 57), some (.int l1), some (.int l2), some (.int l3)], [], D, E) (qR (some (.int v.1)) v.2 E)) (l1 : Int32) (l2 : Int32) (l3 : Int32) (D : mx_D) (v : Int32 × mx_D) (h : b_Sightings_countWays_95 F k95 l1 l2 l3 D = some v) : ev X (d + 1) 97 (95, [some (.ref 57), some (.int l1), some (.int l2), some (.int l3)], [], D, E) (qR (some (.int v.1)) v.2 E) := by
  have hq : kq_m 97 = some kq_q97 := rfl
  unfold b_Sightings_countWays_95 at h
  refine gv_n hq 2 (S' := (97, [some (.ref 57), some (.int l1), some (.int l2), some (.int l3)], [.int l1, .int l3], D, E)) rfl ?_
  refine gv_b hq rfl h 130 100 rfl rfl rfl (fun h => ?_) (fun h => ?_)
  · refine gv_n hq 1 (S' := (131, [some (.ref 57), some (.int l1), some (.int l2), some (.int l3)], [.int l2], D, E)) rfl ?_
    cases h
    exact ev_ret hq rfl rfl ⟨rfl, rfl, rfl⟩
  · refine gv_n hq 2 (S' := (102, [some (.ref 57), some (.int l1), some (.int l2), some (.int l3)], [.int l3, .int l2], D, E)) rfl ?_
    refine gv_d hq rfl rfl rfl rfl rfl ((t_Integer_bitCount X d D E _ _ rfl)) (S' := (105, [some (.ref 57), some (.int l1), some (.int l2), some (.int l3)], [.int (g_Integer_bitCount l3), .int l2], D, E)) rfl ?_
    refine gv_n hq 2 (S' := (109, [some (.ref 57), some (.int l1), some (.int l2), some (.int l3)], [.int (D 57 0), .int (g_Integer_bitCount l3), .int l2], D, E)) rfl ?_
    refine gv_b hq rfl h 112 121 rfl rfl rfl (fun h => ?_) (fun h => ?_)
    · refine gv_n hq 3 (S' := (117, [some (.ref 57), some (.int l1), some (.int l2), some (.int l3)], [.int l3, .ref 59, .int l2], D, E)) rfl ?_
      refine gv_ia hq rfl rfl rfl h 118 rfl (fun h => ?_)
      refine gv_n hq 5 (S' := (95, [some (.ref 57), some (.int l1), some (.int (l2 + (D 59 (l3).toNatClampNeg))), some (.int (l3 + (nI 1)))], [], D, E)) rfl ?_
      exact gv_w (K95 _ _ _ _ _ h) (And.intro rfl (And.intro rfl (And.intro rfl (And.intro rfl trivial))))
    · refine gv_n hq 5 (S' := (95, [some (.ref 57), some (.int l1), some (.int (l2 + (nI 0))), some (.int (l3 + (nI 1)))], [], D, E)) rfl ?_
      exact gv_w (K95 _ _ _ _ _ h) (And.intro rfl (And.intro rfl (And.intro rfl (And.intro rfl trivial))))
def g_Sightings_countWays_95 (F : Nat) : Nat → Int32 → Int32 → Int32 → mx_D → Option (Int32 × mx_D) := it (fun k95 => b_Sightings_countWays_95 F k95) (fun _ _ _ _ => none)
set_option maxRecDepth 100000 in
set_option maxHeartbeats 4000000 in
theorem t_Sightings_countWays_95 (X : ev_X) (F : Nat) (d : Nat) (hd : 1 ≤ d + 1) (E : mx_E)  : ∀ (n : Nat) (l1 : Int32) (l2 : Int32) (l3 : Int32) (D : mx_D) (v : Int32 × mx_D), g_Sightings_countWays_95 F n l1 l2 l3 D = some v → ev X (d + 1) 97 (95, [some (.ref 57), some (.int l1), some (.int l2), some (.int l3)], [], D, E) (qR (some (.int v.1)) v.2 E) := by
  intro n
  induction n with
  | zero => intro l1 l2 l3 D v h; cases h
  | succ n ih => intro l1 l2 l3 D v h; exact tb_Sightings_countWays_95 X F d hd E (g_Sightings_countWays_95 F n) ih l1 l2 l3 D v h
def b_Sightings_countWays_47 (F : Nat) (k37 : Int32 → Int32 → mx_D → Option (Int32 × mx_D)) (k47 : Int32 → Int32 → Int32 → mx_D → Option (Int32 × mx_D)) (l1 : Int32) (l2 : Int32) (l3 : Int32) (D : mx_D) : Option (Int32 × mx_D) := (if l1 ≤ l3 then (k37 l1 (l2 + (nI 1)) D) else (if (g_Integer_bitCount l3) = (l2 + (nI 1)) then (rk 8 l2 (Option.bind (g_Sightings_waysInto F D l3 (D 58 (l2).toNatClampNeg)) (fun r2 => (rk 256 l3 (k47 l1 l2 (l3 + (nI 1)) (sD D 59 (l3).toNatClampNeg r2)))))) else (k47 l1 l2 (l3 + (nI 1)) D)))
set_option maxRecDepth 100000 in
set_option maxHeartbeats 4000000 in
theorem tb_Sightings_countWays_47 (X : ev_X) (F : Nat) (d : Nat) (hd : 1 ≤ d + 1) (E : mx_E) (k37 : Int32 → Int32 → mx_D → Option (Int32 × mx_D)) (k47 : Int32 → Int32 → Int32 → mx_D → Option (Int32 × mx_D)) (K37 : ∀ (l1 : Int32) (l2 : Int32) (D : mx_D) (v : Int32 × mx_D), k37 l1 l2 D = some v → ev X (d + 1) 97 (37, [some (.ref 57), some (.int l1), some (.int l2), none], [], D, E) (qR (some (.int v.1)) v.2 E)) (K47 : ∀ (l1 : Int32) (l2 : Int32) (l3 : Int32) (D : mx_D) (v : Int32 × mx_D), k47 l1 l2 l3 D = some v → ev X (d + 1) 97 (47, [some (.ref 57), some (.int l1), some (.int l2), some (.int l3)], [], D, E) (qR (some (.int v.1)) v.2 E)) (l1 : Int32) (l2 : Int32) (l3 : Int32) (D : mx_D) (v : Int32 × mx_D) (h : b_Sightings_countWays_47 F k37 k47 l1 l2 l3 D = some v) : ev X (d + 1) 97 (47, [some (.ref 57), some (.int l1), some (.int l2), some (.int l3)], [], D, E) (qR (some (.int v.1)) v.2 E) := by
  have hq : kq_m 97 = some kq_q97 := rfl
  unfold b_Sightings_countWays_47 at h
  refine gv_n hq 2 (S' := (49, [some (.ref 57), some (.int l1), some (.int l2), some (.int l3)], [.int l1, .int l3], D, E)) rfl ?_
  refine gv_b hq rfl h 85 52 rfl rfl rfl (fun h => ?_) (fun h => ?_)
  · refine gv_n hq 2 (S' := (37, [some (.ref 57), some (.int l1), some (.int (l2 + (nI 1))), some (.int l3)], [], D, E)) rfl ?_
    exact gv_w (K37 _ _ _ _ h) (And.intro rfl (And.intro rfl (And.intro rfl trivial)))
  · refine gv_n hq 1 (S' := (53, [some (.ref 57), some (.int l1), some (.int l2), some (.int l3)], [.int l3], D, E)) rfl ?_
    refine gv_d hq rfl rfl rfl rfl rfl ((t_Integer_bitCount X d D E _ _ rfl)) (S' := (56, [some (.ref 57), some (.int l1), some (.int l2), some (.int l3)], [.int (g_Integer_bitCount l3)], D, E)) rfl ?_
    refine gv_n hq 3 (S' := (59, [some (.ref 57), some (.int l1), some (.int l2), some (.int l3)], [.int (l2 + (nI 1)), .int (g_Integer_bitCount l3)], D, E)) rfl ?_
    refine gv_b hq rfl h 62 79 rfl rfl rfl (fun h => ?_) (fun h => ?_)
    · refine gv_n hq 8 (S' := (74, [some (.ref 57), some (.int l1), some (.int l2), some (.int l3)], [.int l2, .ref 58, .int l3, .ref 57, .int l3, .ref 59], D, E)) rfl ?_
      refine gv_ia hq rfl rfl rfl h 75 rfl (fun h => ?_)
      obtain ⟨r2, h1, h⟩ := Option.bind_eq_some_iff.mp h
      refine gv_d hq rfl rfl rfl rfl rfl ((t_Sightings_waysInto X F d D E _ _ _ h1)) (S' := (78, [some (.ref 57), some (.int l1), some (.int l2), some (.int l3)], [.int r2, .int l3, .ref 59], D, E)) rfl ?_
      refine gv_is hq rfl rfl h 79 rfl (fun h => ?_)
      refine gv_n hq 2 (S' := (47, [some (.ref 57), some (.int l1), some (.int l2), some (.int (l3 + (nI 1)))], [], (sD D 59 (l3).toNatClampNeg r2), E)) rfl ?_
      exact gv_w (K47 _ _ _ _ _ h) (And.intro rfl (And.intro rfl (And.intro rfl (And.intro rfl trivial))))
    · refine gv_n hq 2 (S' := (47, [some (.ref 57), some (.int l1), some (.int l2), some (.int (l3 + (nI 1)))], [], D, E)) rfl ?_
      exact gv_w (K47 _ _ _ _ _ h) (And.intro rfl (And.intro rfl (And.intro rfl (And.intro rfl trivial))))
def g_Sightings_countWays_47 (F : Nat) (k37 : Int32 → Int32 → mx_D → Option (Int32 × mx_D)) : Nat → Int32 → Int32 → Int32 → mx_D → Option (Int32 × mx_D) := it (fun k47 => b_Sightings_countWays_47 F k37 k47) (fun _ _ _ _ => none)
set_option maxRecDepth 100000 in
set_option maxHeartbeats 4000000 in
theorem t_Sightings_countWays_47 (X : ev_X) (F : Nat) (d : Nat) (hd : 1 ≤ d + 1) (E : mx_E) (k37 : Int32 → Int32 → mx_D → Option (Int32 × mx_D)) (K37 : ∀ (l1 : Int32) (l2 : Int32) (D : mx_D) (v : Int32 × mx_D), k37 l1 l2 D = some v → ev X (d + 1) 97 (37, [some (.ref 57), some (.int l1), some (.int l2), none], [], D, E) (qR (some (.int v.1)) v.2 E)) : ∀ (n : Nat) (l1 : Int32) (l2 : Int32) (l3 : Int32) (D : mx_D) (v : Int32 × mx_D), g_Sightings_countWays_47 F k37 n l1 l2 l3 D = some v → ev X (d + 1) 97 (47, [some (.ref 57), some (.int l1), some (.int l2), some (.int l3)], [], D, E) (qR (some (.int v.1)) v.2 E) := by
  intro n
  induction n with
  | zero => intro l1 l2 l3 D v h; cases h
  | succ n ih => intro l1 l2 l3 D v h; exact tb_Sightings_countWays_47 X F d hd E k37 (g_Sightings_countWays_47 F k37 n) K37 ih l1 l2 l3 D v h
def b_Sightings_countWays_37 (F : Nat) (k37 : Int32 → Int32 → mx_D → Option (Int32 × mx_D)) (l1 : Int32) (l2 : Int32) (D : mx_D) : Option (Int32 × mx_D) := (if (D 57 0) ≤ l2 then (g_Sightings_countWays_95 F F l1 (nI 0) (nI 0) D) else (g_Sightings_countWays_47 F k37 F l1 l2 (nI 0) D))
set_option maxRecDepth 100000 in
set_option maxHeartbeats 4000000 in
theorem tb_Sightings_countWays_37 (X : ev_X) (F : Nat) (d : Nat) (hd : 1 ≤ d + 1) (E : mx_E) (k37 : Int32 → Int32 → mx_D → Option (Int32 × mx_D)) (K37 : ∀ (l1 : Int32) (l2 : Int32) (D : mx_D) (v : Int32 × mx_D), k37 l1 l2 D = some v → ev X (d + 1) 97 (37, [some (.ref 57), some (.int l1), some (.int l2), none], [], D, E) (qR (some (.int v.1)) v.2 E)) (l1 : Int32) (l2 : Int32) (D : mx_D) (v : Int32 × mx_D) (h : b_Sightings_countWays_37 F k37 l1 l2 D = some v) : ev X (d + 1) 97 (37, [some (.ref 57), some (.int l1), some (.int l2), none], [], D, E) (qR (some (.int v.1)) v.2 E) := by
  have hq : kq_m 97 = some kq_q97 := rfl
  unfold b_Sightings_countWays_37 at h
  refine gv_n hq 3 (S' := (42, [some (.ref 57), some (.int l1), some (.int l2), none], [.int (D 57 0), .int l2], D, E)) rfl ?_
  refine gv_b hq rfl h 91 45 rfl rfl rfl (fun h => ?_) (fun h => ?_)
  · refine gv_n hq 4 (S' := (95, [some (.ref 57), some (.int l1), some (.int (nI 0)), some (.int (nI 0))], [], D, E)) rfl ?_
    exact gv_w (t_Sightings_countWays_95 X F d hd E F _ _ _ _ _ h) (And.intro rfl (And.intro rfl (And.intro rfl (And.intro rfl trivial))))
  · refine gv_n hq 2 (S' := (47, [some (.ref 57), some (.int l1), some (.int l2), some (.int (nI 0))], [], D, E)) rfl ?_
    exact gv_w (t_Sightings_countWays_47 X F d hd E k37 K37 F _ _ _ _ _ h) (And.intro rfl (And.intro rfl (And.intro rfl (And.intro rfl trivial))))
def g_Sightings_countWays_37 (F : Nat) : Nat → Int32 → Int32 → mx_D → Option (Int32 × mx_D) := it (fun k37 => b_Sightings_countWays_37 F k37) (fun _ _ _ => none)
set_option maxRecDepth 100000 in
set_option maxHeartbeats 4000000 in
theorem t_Sightings_countWays_37 (X : ev_X) (F : Nat) (d : Nat) (hd : 1 ≤ d + 1) (E : mx_E)  : ∀ (n : Nat) (l1 : Int32) (l2 : Int32) (D : mx_D) (v : Int32 × mx_D), g_Sightings_countWays_37 F n l1 l2 D = some v → ev X (d + 1) 97 (37, [some (.ref 57), some (.int l1), some (.int l2), none], [], D, E) (qR (some (.int v.1)) v.2 E) := by
  intro n
  induction n with
  | zero => intro l1 l2 D v h; cases h
  | succ n ih => intro l1 l2 D v h; exact tb_Sightings_countWays_37 X F d hd E (g_Sightings_countWays_37 F n) ih l1 l2 D v h
def g_Sightings_countWays (F : Nat) (D : mx_D) : Option (Int32 × mx_D) := (if (D 57 0) ≤ (D 57 1) then (Option.bind (g_Arrays_fill_59 F (nI 0) D) (fun r1 => (g_Sightings_countWays_37 F F ((nI 1) <<< ((D 57 1) &&& 31)) (nI 0) (sD r1 59 0 (nI 1))))) else (some ((nI 0), D)))
set_option maxRecDepth 100000 in
set_option maxHeartbeats 4000000 in
theorem t_Sightings_countWays (X : ev_X) (F : Nat) (d : Nat) (hd : 1 ≤ d + 1) (E : mx_E) (D : mx_D) (v : Int32 × mx_D) (h : g_Sightings_countWays F D = some v) : ev X (d + 1) 97 (0, [some (.ref 57), none, none, none], [], D, E) (qR (some (.int v.1)) v.2 E) := by
  have hq : kq_m 97 = some kq_q97 := rfl
  unfold g_Sightings_countWays at h
  refine gv_n hq 4 (S' := (8, [some (.ref 57), none, none, none], [.int (D 57 1), .int (D 57 0)], D, E)) rfl ?_
  refine gv_b hq rfl h 13 11 rfl rfl rfl (fun h => ?_) (fun h => ?_)
  · refine gv_n hq 8 (S' := (25, [some (.ref 57), some (.int ((nI 1) <<< ((D 57 1) &&& 31))), none, none], [.int (nI 0), .ref 59], D, E)) rfl ?_
    obtain ⟨r1, h1, h⟩ := Option.bind_eq_some_iff.mp h
    refine gv_d hq rfl rfl rfl rfl rfl ((t_Arrays_fill_59 X F d E _ _ _ h1)) (S' := (28, [some (.ref 57), some (.int ((nI 1) <<< ((D 57 1) &&& 31))), none, none], [], r1, E)) rfl ?_
    refine gv_n hq 7 (S' := (37, [some (.ref 57), some (.int ((nI 1) <<< ((D 57 1) &&& 31))), some (.int (nI 0)), none], [], (sD r1 59 0 (nI 1)), E)) rfl ?_
    exact gv_w (t_Sightings_countWays_37 X F d hd E F _ _ _ _ h) (And.intro rfl (And.intro rfl (And.intro rfl trivial)))
  · refine gv_n hq 1 (S' := (12, [some (.ref 57), none, none, none], [.int (nI 0)], D, E)) rfl ?_
    cases h
    exact ev_ret hq rfl rfl ⟨rfl, rfl, rfl⟩
def g_X_seen (F : Nat) (E : mx_E) (a1 : Int32) (a2 : Int32) (D : mx_D) : Option (Int32 × mx_D) := (Option.bind (g_X_lookAt F E a1 a2 D) (fun r1 => (if r1.1 = 0 then (Option.bind (g_Sightings_countWays F r1.2) (fun r2 => (some (r2.1, r2.2)))) else (some (r1.1, r1.2)))))
set_option maxRecDepth 100000 in
set_option maxHeartbeats 4000000 in
theorem t_X_seen (X : ev_X) (F : Nat) (d : Nat) (hd : 6 ≤ d + 1) (E : mx_E) (a1 : Int32) (a2 : Int32) (D : mx_D) (v : Int32 × mx_D) (h : g_X_seen F E a1 a2 D = some v) : ev X (d + 1) 166 (0, [some (.ref 0), some (.int a1), some (.int a2), none], [], D, E) (qR (some (.int v.1)) v.2 E) := by
  have hq : kq_m 166 = some kq_q166 := rfl
  unfold g_X_seen at h
  refine gv_n hq 3 (S' := (3, [some (.ref 0), some (.int a1), some (.int a2), none], [.int a2, .int a1, .ref 0], D, E)) rfl ?_
  obtain ⟨r1, h1, h⟩ := Option.bind_eq_some_iff.mp h
  refine gv_d hq rfl rfl rfl rfl rfl (gv_dd (by omega) (t_X_lookAt X F (d - 1) (by omega) E _ _ _ _ h1)) (S' := (6, [some (.ref 0), some (.int a1), some (.int a2), none], [.int r1.1], r1.2, E)) rfl ?_
  refine gv_n hq 2 (S' := (8, [some (.ref 0), some (.int a1), some (.int a2), some (.int r1.1)], [.int r1.1], r1.2, E)) rfl ?_
  refine gv_b hq rfl h 15 11 rfl rfl rfl (fun h => ?_) (fun h => ?_)
  · refine gv_n hq 2 (S' := (19, [some (.ref 0), some (.int a1), some (.int a2), some (.int r1.1)], [.ref 57], r1.2, E)) rfl ?_
    obtain ⟨r2, h1, h⟩ := Option.bind_eq_some_iff.mp h
    refine gv_d hq rfl rfl rfl rfl rfl (gv_dd (by omega) (t_Sightings_countWays X F (d - 1) (by omega) E _ _ h1)) (S' := (22, [some (.ref 0), some (.int a1), some (.int a2), some (.int r1.1)], [.int r2.1], r2.2, E)) rfl ?_
    cases h
    exact ev_ret hq rfl rfl ⟨rfl, rfl, rfl⟩
  · refine gv_n hq 2 (S' := (22, [some (.ref 0), some (.int a1), some (.int a2), some (.int r1.1)], [.int r1.1], r1.2, E)) rfl ?_
    cases h
    exact ev_ret hq rfl rfl ⟨rfl, rfl, rfl⟩
def g_M_isSlot (a0 : Int32) : Int32 := (g_M_in ((a0).toInt64) (lN 0) (3 : Int64))
set_option maxRecDepth 100000 in
set_option maxHeartbeats 4000000 in
theorem t_M_isSlot (X : ev_X) (d : Nat) (hd : 1 ≤ d + 1) (D : mx_D) (E : mx_E) (a0 : Int32) (v : Int32) (h : g_M_isSlot a0 = v) : ev X (d + 1) 313 (0, [some (.int a0)], [], D, E) (qR (some (.int v)) D E) := by
  have hq : kq_m 313 = some kq_q313 := rfl
  unfold g_M_isSlot at h
  refine gv_n hq 4 (S' := (6, [some (.int a0)], [.long (3 : Int64), .long (lN 0), .long ((a0).toInt64)], D, E)) rfl ?_
  refine gv_d hq rfl rfl rfl rfl rfl ((t_M_in X d D E _ _ _ _ rfl)) (S' := (9, [some (.int a0)], [.int (g_M_in ((a0).toInt64) (lN 0) (3 : Int64))], D, E)) rfl ?_
  subst h
  exact ev_rz hq rfl rfl rfl (z_M_in ..) ⟨rfl, rfl, rfl⟩
theorem z_M_isSlot (a0 : Int32) : g_M_isSlot a0 = 0 ∨ g_M_isSlot a0 = 1 := by
  unfold g_M_isSlot
  (repeat' split) <;> first | exact Or.inl rfl | exact Or.inr rfl | exact z_M_in ..
def g_M_numberAt (E : mx_E) (a1 : Int32) (a2 : Int32) : Option (Int64) := (rk 240 (((nI 60) * a1) + a2) (some (E 139 ((((nI 60) * a1) + a2)).toNatClampNeg)))
set_option maxRecDepth 100000 in
set_option maxHeartbeats 4000000 in
theorem t_M_numberAt (X : ev_X) (d : Nat) (D : mx_D) (E : mx_E) (a1 : Int32) (a2 : Int32) (v : Int64) (h : g_M_numberAt E a1 a2 = some v) : ev X d 314 (0, [some (.ref 116), some (.int a1), some (.int a2)], [], D, E) (qR (some (.long v)) D E) := by
  have hq : kq_m 314 = some kq_q314 := rfl
  unfold g_M_numberAt at h
  refine gv_n hq 7 (S' := (10, [some (.ref 116), some (.int a1), some (.int a2)], [.int (((nI 60) * a1) + a2), .ref 139], D, E)) rfl ?_
  refine gv_la hq rfl rfl h 11 rfl (fun h => ?_)
  cases h
  exact ev_ret hq rfl rfl ⟨rfl, rfl, rfl⟩
def b_M_asksSeen_84 (F : Nat) (D : mx_D) (E : mx_E) (k47 : Int32 → Int32 → Option (Int32)) (k84 : Int32 → Int32 → Int32 → Option (Int32)) (l1 : Int32) (l3 : Int32) (l4 : Int32) : Option (Int32) := (if l3 ≤ l4 then (k47 l1 (l3 + (nI 3))) else (Option.bind (g_M_numberAt E l1 l4) (fun r3 => (Option.bind (g_M_numberAt E l1 l3) (fun r4 => (if (lg_cmp r3 r4) = 0 then (Option.bind (g_M_numberAt E l1 (l4 + (nI 1))) (fun r5 => (Option.bind (g_M_numberAt E l1 (l3 + (nI 1))) (fun r6 => (if (lg_cmp r5 r6) = 0 then (some (-2 : Int32)) else (k84 l1 l3 (l4 + (nI 3)))))))) else (k84 l1 l3 (l4 + (nI 3)))))))))
set_option maxRecDepth 100000 in
set_option maxHeartbeats 4000000 in
theorem tb_M_asksSeen_84 (X : ev_X) (F : Nat) (d : Nat) (hd : 3 ≤ d + 1) (D : mx_D) (E : mx_E) (k47 : Int32 → Int32 → Option (Int32)) (k84 : Int32 → Int32 → Int32 → Option (Int32)) (K47 : ∀ (l1 : Int32) (l3 : Int32) (v : Int32), k47 l1 l3 = some v → ev X (d + 1) 312 (47, [some (.ref 116), some (.int l1), none, some (.int l3), none], [], D, E) (qR (some (.int v)) D E)) (K84 : ∀ (l1 : Int32) (l3 : Int32) (l4 : Int32) (v : Int32), k84 l1 l3 l4 = some v → ev X (d + 1) 312 (84, [some (.ref 116), some (.int l1), none, some (.int l3), some (.int l4)], [], D, E) (qR (some (.int v)) D E)) (l1 : Int32) (l3 : Int32) (l4 : Int32) (v : Int32) (h : b_M_asksSeen_84 F D E k47 k84 l1 l3 l4 = some v) : ev X (d + 1) 312 (84, [some (.ref 116), some (.int l1), none, some (.int l3), some (.int l4)], [], D, E) (qR (some (.int v)) D E) := by
  have hq : kq_m 312 = some kq_q312 := rfl
  unfold b_M_asksSeen_84 at h
  refine gv_n hq 2 (S' := (87, [some (.ref 116), some (.int l1), none, some (.int l3), some (.int l4)], [.int l3, .int l4], D, E)) rfl ?_
  refine gv_b hq rfl h 137 90 rfl rfl rfl (fun h => ?_) (fun h => ?_)
  · refine gv_n hq 2 (S' := (47, [some (.ref 116), some (.int l1), none, some (.int (l3 + (nI 3))), some (.int l4)], [], D, E)) rfl ?_
    exact gv_w (K47 _ _ _ h) (And.intro rfl (And.intro rfl (And.intro rfl trivial)))
  · refine gv_n hq 3 (S' := (94, [some (.ref 116), some (.int l1), none, some (.int l3), some (.int l4)], [.int l4, .int l1, .ref 116], D, E)) rfl ?_
    obtain ⟨r3, h1, h⟩ := Option.bind_eq_some_iff.mp h
    refine gv_d hq rfl rfl rfl rfl rfl ((t_M_numberAt X d D E _ _ _ h1)) (S' := (97, [some (.ref 116), some (.int l1), none, some (.int l3), some (.int l4)], [.long r3], D, E)) rfl ?_
    refine gv_n hq 3 (S' := (100, [some (.ref 116), some (.int l1), none, some (.int l3), some (.int l4)], [.int l3, .int l1, .ref 116, .long r3], D, E)) rfl ?_
    obtain ⟨r4, h1, h⟩ := Option.bind_eq_some_iff.mp h
    refine gv_d hq rfl rfl rfl rfl rfl ((t_M_numberAt X d D E _ _ _ h1)) (S' := (103, [some (.ref 116), some (.int l1), none, some (.int l3), some (.int l4)], [.long r4, .long r3], D, E)) rfl ?_
    refine gv_n hq 1 (S' := (104, [some (.ref 116), some (.int l1), none, some (.int l3), some (.int l4)], [.int (lg_cmp r3 r4)], D, E)) rfl ?_
    refine gv_b hq rfl h 107 131 rfl rfl rfl (fun h => ?_) (fun h => ?_)
    · refine gv_n hq 5 (S' := (113, [some (.ref 116), some (.int l1), none, some (.int l3), some (.int l4)], [.int (l4 + (nI 1)), .int l1, .ref 116], D, E)) rfl ?_
      obtain ⟨r5, h1, h⟩ := Option.bind_eq_some_iff.mp h
      refine gv_d hq rfl rfl rfl rfl rfl ((t_M_numberAt X d D E _ _ _ h1)) (S' := (116, [some (.ref 116), some (.int l1), none, some (.int l3), some (.int l4)], [.long r5], D, E)) rfl ?_
      refine gv_n hq 5 (S' := (121, [some (.ref 116), some (.int l1), none, some (.int l3), some (.int l4)], [.int (l3 + (nI 1)), .int l1, .ref 116, .long r5], D, E)) rfl ?_
      obtain ⟨r6, h1, h⟩ := Option.bind_eq_some_iff.mp h
      refine gv_d hq rfl rfl rfl rfl rfl ((t_M_numberAt X d D E _ _ _ h1)) (S' := (124, [some (.ref 116), some (.int l1), none, some (.int l3), some (.int l4)], [.long r6, .long r5], D, E)) rfl ?_
      refine gv_n hq 1 (S' := (125, [some (.ref 116), some (.int l1), none, some (.int l3), some (.int l4)], [.int (lg_cmp r5 r6)], D, E)) rfl ?_
      refine gv_b hq rfl h 128 131 rfl rfl rfl (fun h => ?_) (fun h => ?_)
      · refine gv_n hq 1 (S' := (130, [some (.ref 116), some (.int l1), none, some (.int l3), some (.int l4)], [.int (-2 : Int32)], D, E)) rfl ?_
        cases h
        exact ev_ret hq rfl rfl ⟨rfl, rfl, rfl⟩
      · refine gv_n hq 2 (S' := (84, [some (.ref 116), some (.int l1), none, some (.int l3), some (.int (l4 + (nI 3)))], [], D, E)) rfl ?_
        exact gv_w (K84 _ _ _ _ h) (And.intro rfl (And.intro rfl (And.intro rfl (And.intro rfl trivial))))
    · refine gv_n hq 2 (S' := (84, [some (.ref 116), some (.int l1), none, some (.int l3), some (.int (l4 + (nI 3)))], [], D, E)) rfl ?_
      exact gv_w (K84 _ _ _ _ h) (And.intro rfl (And.intro rfl (And.intro rfl (And.intro rfl trivial))))
def g_M_asksSeen_84 (F : Nat) (D : mx_D) (E : mx_E) (k47 : Int32 → Int32 → Option (Int32)) : Nat → Int32 → Int32 → Int32 → Option (Int32) := it (fun k84 => b_M_asksSeen_84 F D E k47 k84) (fun _ _ _ => none)
set_option maxRecDepth 100000 in
set_option maxHeartbeats 4000000 in
theorem t_M_asksSeen_84 (X : ev_X) (F : Nat) (d : Nat) (hd : 3 ≤ d + 1) (D : mx_D) (E : mx_E) (k47 : Int32 → Int32 → Option (Int32)) (K47 : ∀ (l1 : Int32) (l3 : Int32) (v : Int32), k47 l1 l3 = some v → ev X (d + 1) 312 (47, [some (.ref 116), some (.int l1), none, some (.int l3), none], [], D, E) (qR (some (.int v)) D E)) : ∀ (n : Nat) (l1 : Int32) (l3 : Int32) (l4 : Int32) (v : Int32), g_M_asksSeen_84 F D E k47 n l1 l3 l4 = some v → ev X (d + 1) 312 (84, [some (.ref 116), some (.int l1), none, some (.int l3), some (.int l4)], [], D, E) (qR (some (.int v)) D E) := by
  intro n
  induction n with
  | zero => intro l1 l3 l4 v h; cases h
  | succ n ih => intro l1 l3 l4 v h; exact tb_M_asksSeen_84 X F d hd D E k47 (g_M_asksSeen_84 F D E k47 n) K47 ih l1 l3 l4 v h
def b_M_asksSeen_47 (F : Nat) (D : mx_D) (E : mx_E) (k47 : Int32 → Int32 → Option (Int32)) (l1 : Int32) (l3 : Int32) : Option (Int32) := (rk 4 l1 (if (D 137 (l1).toNatClampNeg) ≤ l3 then (some (nI 0)) else (Option.bind (g_M_numberAt E l1 l3) (fun r1 => (Option.bind (g_M_numberAt E l1 (l3 + (nI 1))) (fun r2 => (if (g_M_isPlace D r1 r2) = 0 then (some (-2 : Int32)) else (g_M_asksSeen_84 F D E k47 F l1 l3 (nI 0)))))))))
set_option maxRecDepth 100000 in
set_option maxHeartbeats 4000000 in
theorem tb_M_asksSeen_47 (X : ev_X) (F : Nat) (d : Nat) (hd : 3 ≤ d + 1) (D : mx_D) (E : mx_E) (k47 : Int32 → Int32 → Option (Int32)) (K47 : ∀ (l1 : Int32) (l3 : Int32) (v : Int32), k47 l1 l3 = some v → ev X (d + 1) 312 (47, [some (.ref 116), some (.int l1), none, some (.int l3), none], [], D, E) (qR (some (.int v)) D E)) (l1 : Int32) (l3 : Int32) (v : Int32) (h : b_M_asksSeen_47 F D E k47 l1 l3 = some v) : ev X (d + 1) 312 (47, [some (.ref 116), some (.int l1), none, some (.int l3), none], [], D, E) (qR (some (.int v)) D E) := by
  have hq : kq_m 312 = some kq_q312 := rfl
  unfold b_M_asksSeen_47 at h
  refine gv_n hq 4 (S' := (53, [some (.ref 116), some (.int l1), none, some (.int l3), none], [.int l1, .ref 137, .int l3], D, E)) rfl ?_
  refine gv_ia hq rfl rfl rfl h 54 rfl (fun h => ?_)
  refine gv_b hq rfl h 143 57 rfl rfl rfl (fun h => ?_) (fun h => ?_)
  · refine gv_n hq 1 (S' := (144, [some (.ref 116), some (.int l1), none, some (.int l3), none], [.int (nI 0)], D, E)) rfl ?_
    cases h
    exact ev_ret hq rfl rfl ⟨rfl, rfl, rfl⟩
  · refine gv_n hq 4 (S' := (61, [some (.ref 116), some (.int l1), none, some (.int l3), none], [.int l3, .int l1, .ref 116, .ref 116], D, E)) rfl ?_
    obtain ⟨r1, h1, h⟩ := Option.bind_eq_some_iff.mp h
    refine gv_d hq rfl rfl rfl rfl rfl ((t_M_numberAt X d D E _ _ _ h1)) (S' := (64, [some (.ref 116), some (.int l1), none, some (.int l3), none], [.long r1, .ref 116], D, E)) rfl ?_
    refine gv_n hq 5 (S' := (69, [some (.ref 116), some (.int l1), none, some (.int l3), none], [.int (l3 + (nI 1)), .int l1, .ref 116, .long r1, .ref 116], D, E)) rfl ?_
    obtain ⟨r2, h1, h⟩ := Option.bind_eq_some_iff.mp h
    refine gv_d hq rfl rfl rfl rfl rfl ((t_M_numberAt X d D E _ _ _ h1)) (S' := (72, [some (.ref 116), some (.int l1), none, some (.int l3), none], [.long r2, .long r1, .ref 116], D, E)) rfl ?_
    refine gv_d hq rfl rfl rfl rfl rfl (gv_dd (by omega) (t_M_isPlace X (d - 1) (by omega) D E _ _ _ rfl)) (S' := (75, [some (.ref 116), some (.int l1), none, some (.int l3), none], [.int (g_M_isPlace D r1 r2)], D, E)) rfl ?_
    refine gv_b hq rfl h 78 81 rfl rfl rfl (fun h => ?_) (fun h => ?_)
    · refine gv_n hq 1 (S' := (80, [some (.ref 116), some (.int l1), none, some (.int l3), none], [.int (-2 : Int32)], D, E)) rfl ?_
      cases h
      exact ev_ret hq rfl rfl ⟨rfl, rfl, rfl⟩
    · refine gv_n hq 2 (S' := (84, [some (.ref 116), some (.int l1), none, some (.int l3), some (.int (nI 0))], [], D, E)) rfl ?_
      exact gv_w (t_M_asksSeen_84 X F d hd D E k47 K47 F _ _ _ _ h) (And.intro rfl (And.intro rfl (And.intro rfl (And.intro rfl trivial))))
def g_M_asksSeen_47 (F : Nat) (D : mx_D) (E : mx_E) : Nat → Int32 → Int32 → Option (Int32) := it (fun k47 => b_M_asksSeen_47 F D E k47) (fun _ _ => none)
set_option maxRecDepth 100000 in
set_option maxHeartbeats 4000000 in
theorem t_M_asksSeen_47 (X : ev_X) (F : Nat) (d : Nat) (hd : 3 ≤ d + 1) (D : mx_D) (E : mx_E)  : ∀ (n : Nat) (l1 : Int32) (l3 : Int32) (v : Int32), g_M_asksSeen_47 F D E n l1 l3 = some v → ev X (d + 1) 312 (47, [some (.ref 116), some (.int l1), none, some (.int l3), none], [], D, E) (qR (some (.int v)) D E) := by
  intro n
  induction n with
  | zero => intro l1 l3 v h; cases h
  | succ n ih => intro l1 l3 v h; exact tb_M_asksSeen_47 X F d hd D E (g_M_asksSeen_47 F D E n) ih l1 l3 v h
def g_M_asksSeen (F : Nat) (D : mx_D) (E : mx_E) (a1 : Int32) (a2 : Int32) : Option (Int32) := (if (g_M_isSlot a1) = 0 then (some (-2 : Int32)) else (if (g_M_isYear D a2) = 0 then (some (-2 : Int32)) else (rk 4 a1 (if (D 137 (a1).toNatClampNeg) = (-1 : Int32) then (some (-6 : Int32)) else (rk 4 a1 (if ((D 137 (a1).toNatClampNeg) - (D 137 (a1).toNatClampNeg) / (nI 3) * (nI 3)) = 0 then (g_M_asksSeen_47 F D E F a1 (nI 0)) else (some (-2 : Int32))))))))
set_option maxRecDepth 100000 in
set_option maxHeartbeats 4000000 in
theorem t_M_asksSeen (X : ev_X) (F : Nat) (d : Nat) (hd : 3 ≤ d + 1) (D : mx_D) (E : mx_E) (a1 : Int32) (a2 : Int32) (v : Int32) (h : g_M_asksSeen F D E a1 a2 = some v) : ev X (d + 1) 312 (0, [some (.ref 116), some (.int a1), some (.int a2), none, none], [], D, E) (qR (some (.int v)) D E) := by
  have hq : kq_m 312 = some kq_q312 := rfl
  unfold g_M_asksSeen at h
  refine gv_n hq 1 (S' := (1, [some (.ref 116), some (.int a1), some (.int a2), none, none], [.int a1], D, E)) rfl ?_
  refine gv_d hq rfl rfl rfl rfl rfl (gv_dd (by omega) (t_M_isSlot X (d - 1) (by omega) D E _ _ rfl)) (S' := (4, [some (.ref 116), some (.int a1), some (.int a2), none, none], [.int (g_M_isSlot a1)], D, E)) rfl ?_
  refine gv_b hq rfl h 15 7 rfl rfl rfl (fun h => ?_) (fun h => ?_)
  · refine gv_n hq 1 (S' := (17, [some (.ref 116), some (.int a1), some (.int a2), none, none], [.int (-2 : Int32)], D, E)) rfl ?_
    cases h
    exact ev_ret hq rfl rfl ⟨rfl, rfl, rfl⟩
  · refine gv_n hq 2 (S' := (9, [some (.ref 116), some (.int a1), some (.int a2), none, none], [.int a2, .ref 116], D, E)) rfl ?_
    refine gv_d hq rfl rfl rfl rfl rfl (gv_dd (by omega) (t_M_isYear X (d - 1) (by omega) D E _ _ rfl)) (S' := (12, [some (.ref 116), some (.int a1), some (.int a2), none, none], [.int (g_M_isYear D a2)], D, E)) rfl ?_
    refine gv_b hq rfl h 15 18 rfl rfl rfl (fun h => ?_) (fun h => ?_)
    · refine gv_n hq 1 (S' := (17, [some (.ref 116), some (.int a1), some (.int a2), none, none], [.int (-2 : Int32)], D, E)) rfl ?_
      cases h
      exact ev_ret hq rfl rfl ⟨rfl, rfl, rfl⟩
    · refine gv_n hq 3 (S' := (23, [some (.ref 116), some (.int a1), some (.int a2), none, none], [.int a1, .ref 137], D, E)) rfl ?_
      refine gv_ia hq rfl rfl rfl h 24 rfl (fun h => ?_)
      refine gv_n hq 1 (S' := (25, [some (.ref 116), some (.int a1), some (.int a2), none, none], [.int (-1 : Int32), .int (D 137 (a1).toNatClampNeg)], D, E)) rfl ?_
      refine gv_b hq rfl h 28 31 rfl rfl rfl (fun h => ?_) (fun h => ?_)
      · refine gv_n hq 1 (S' := (30, [some (.ref 116), some (.int a1), some (.int a2), none, none], [.int (-6 : Int32)], D, E)) rfl ?_
        cases h
        exact ev_ret hq rfl rfl ⟨rfl, rfl, rfl⟩
      · refine gv_n hq 3 (S' := (36, [some (.ref 116), some (.int a1), some (.int a2), none, none], [.int a1, .ref 137], D, E)) rfl ?_
        refine gv_ia hq rfl rfl rfl h 37 rfl (fun h => ?_)
        refine gv_n hq 2 (S' := (39, [some (.ref 116), some (.int a1), some (.int a2), none, none], [.int ((D 137 (a1).toNatClampNeg) - (D 137 (a1).toNatClampNeg) / (nI 3) * (nI 3))], D, E)) rfl ?_
        refine gv_b hq rfl h 45 42 rfl rfl rfl (fun h => ?_) (fun h => ?_)
        · refine gv_n hq 2 (S' := (47, [some (.ref 116), some (.int a1), some (.int a2), some (.int (nI 0)), none], [], D, E)) rfl ?_
          exact gv_w (t_M_asksSeen_47 X F d hd D E F _ _ _ h) (And.intro rfl (And.intro rfl (And.intro rfl trivial)))
        · refine gv_n hq 1 (S' := (44, [some (.ref 116), some (.int a1), some (.int a2), none, none], [.int (-2 : Int32)], D, E)) rfl ?_
          cases h
          exact ev_ret hq rfl rfl ⟨rfl, rfl, rfl⟩
def b_M_seenBy_265 (F : Nat) (E : mx_E) (k265 : Int32 → Int32 → mx_D → Option (Int32 × mx_D)) (l5 : Int32) (l6 : Int32) (D : mx_D) : Option (Int32 × mx_D) := (if (nI 256) ≤ l6 then (some (l5, D)) else (rk 256 l6 (k265 (l5 + (D 134 (l6).toNatClampNeg)) (l6 + (nI 1)) D)))
set_option maxRecDepth 100000 in
set_option maxHeartbeats 4000000 in
theorem tb_M_seenBy_265 (X : ev_X) (F : Nat) (d : Nat) (hd : 3 ≤ d + 1) (E : mx_E) (k265 : Int32 → Int32 → mx_D → Option (Int32 × mx_D)) (K265 : ∀ (l5 : Int32) (l6 : Int32) (D : mx_D) (v : Int32 × mx_D), k265 l5 l6 D = some v → ev X (d + 1) 315 (265, [some (.ref 116), none, none, none, none, some (.int l5), some (.int l6), none, none], [], D, E) (qR (some (.int v.1)) v.2 E)) (l5 : Int32) (l6 : Int32) (D : mx_D) (v : Int32 × mx_D) (h : b_M_seenBy_265 F E k265 l5 l6 D = some v) : ev X (d + 1) 315 (265, [some (.ref 116), none, none, none, none, some (.int l5), some (.int l6), none, none], [], D, E) (qR (some (.int v.1)) v.2 E) := by
  have hq : kq_m 315 = some kq_q315 := rfl
  unfold b_M_seenBy_265 at h
  refine gv_n hq 4 (S' := (272, [some (.ref 116), none, none, none, none, some (.int l5), some (.int l6), none, none], [.int (nI 256), .int l6], D, E)) rfl ?_
  refine gv_b hq rfl h 293 275 rfl rfl rfl (fun h => ?_) (fun h => ?_)
  · refine gv_n hq 1 (S' := (295, [some (.ref 116), none, none, none, none, some (.int l5), some (.int l6), none, none], [.int l5], D, E)) rfl ?_
    cases h
    exact ev_ret hq rfl rfl ⟨rfl, rfl, rfl⟩
  · refine gv_n hq 4 (S' := (283, [some (.ref 116), none, none, none, none, some (.int l5), some (.int l6), none, none], [.int l6, .ref 134, .int l5], D, E)) rfl ?_
    refine gv_ia hq rfl rfl rfl h 284 rfl (fun h => ?_)
    refine gv_n hq 4 (S' := (265, [some (.ref 116), none, none, none, none, some (.int (l5 + (D 134 (l6).toNatClampNeg))), some (.int (l6 + (nI 1))), none, none], [], D, E)) rfl ?_
    exact gv_w (K265 _ _ _ _ h) (And.intro rfl (And.intro rfl (And.intro rfl trivial)))
def g_M_seenBy_265 (F : Nat) (E : mx_E) : Nat → Int32 → Int32 → mx_D → Option (Int32 × mx_D) := it (fun k265 => b_M_seenBy_265 F E k265) (fun _ _ _ => none)
set_option maxRecDepth 100000 in
set_option maxHeartbeats 4000000 in
theorem t_M_seenBy_265 (X : ev_X) (F : Nat) (d : Nat) (hd : 3 ≤ d + 1) (E : mx_E)  : ∀ (n : Nat) (l5 : Int32) (l6 : Int32) (D : mx_D) (v : Int32 × mx_D), g_M_seenBy_265 F E n l5 l6 D = some v → ev X (d + 1) 315 (265, [some (.ref 116), none, none, none, none, some (.int l5), some (.int l6), none, none], [], D, E) (qR (some (.int v.1)) v.2 E) := by
  intro n
  induction n with
  | zero => intro l5 l6 D v h; cases h
  | succ n ih => intro l5 l6 D v h; exact tb_M_seenBy_265 X F d hd E (g_M_seenBy_265 F E n) ih l5 l6 D v h
def b_M_seenBy_223 (F : Nat) (E : mx_E) (k39 : Int32 → Int32 → Int32 → Int32 → Int32 → mx_D → Option (Int32 × mx_D)) (k223 : Int32 → Int32 → Int32 → Int32 → Int32 → Int32 → mx_D → Option (Int32 × mx_D)) (l1 : Int32) (l2 : Int32) (l3 : Int32) (l4 : Int32) (l5 : Int32) (l7 : Int32) (D : mx_D) : Option (Int32 × mx_D) := (if (nI 256) ≤ l7 then (k39 l1 l2 l3 l4 (l5 + (nI 1)) D) else (rk 256 l7 (rk 256 l7 (k223 l1 l2 l3 l4 l5 (l7 + (nI 1)) (sD D 134 (l7).toNatClampNeg (D 135 (l7).toNatClampNeg))))))
set_option maxRecDepth 100000 in
set_option maxHeartbeats 4000000 in
theorem tb_M_seenBy_223 (X : ev_X) (F : Nat) (d : Nat) (hd : 3 ≤ d + 1) (E : mx_E) (k39 : Int32 → Int32 → Int32 → Int32 → Int32 → mx_D → Option (Int32 × mx_D)) (k223 : Int32 → Int32 → Int32 → Int32 → Int32 → Int32 → mx_D → Option (Int32 × mx_D)) (K39 : ∀ (l1 : Int32) (l2 : Int32) (l3 : Int32) (l4 : Int32) (l5 : Int32) (D : mx_D) (v : Int32 × mx_D), k39 l1 l2 l3 l4 l5 D = some v → ev X (d + 1) 315 (39, [some (.ref 116), some (.int l1), some (.int l2), some (.int l3), some (.int l4), some (.int l5), none, none, none], [], D, E) (qR (some (.int v.1)) v.2 E)) (K223 : ∀ (l1 : Int32) (l2 : Int32) (l3 : Int32) (l4 : Int32) (l5 : Int32) (l7 : Int32) (D : mx_D) (v : Int32 × mx_D), k223 l1 l2 l3 l4 l5 l7 D = some v → ev X (d + 1) 315 (223, [some (.ref 116), some (.int l1), some (.int l2), some (.int l3), some (.int l4), some (.int l5), none, some (.int l7), none], [], D, E) (qR (some (.int v.1)) v.2 E)) (l1 : Int32) (l2 : Int32) (l3 : Int32) (l4 : Int32) (l5 : Int32) (l7 : Int32) (D : mx_D) (v : Int32 × mx_D) (h : b_M_seenBy_223 F E k39 k223 l1 l2 l3 l4 l5 l7 D = some v) : ev X (d + 1) 315 (223, [some (.ref 116), some (.int l1), some (.int l2), some (.int l3), some (.int l4), some (.int l5), none, some (.int l7), none], [], D, E) (qR (some (.int v.1)) v.2 E) := by
  have hq : kq_m 315 = some kq_q315 := rfl
  unfold b_M_seenBy_223 at h
  refine gv_n hq 4 (S' := (230, [some (.ref 116), some (.int l1), some (.int l2), some (.int l3), some (.int l4), some (.int l5), none, some (.int l7), none], [.int (nI 256), .int l7], D, E)) rfl ?_
  refine gv_b hq rfl h 253 233 rfl rfl rfl (fun h => ?_) (fun h => ?_)
  · refine gv_n hq 2 (S' := (39, [some (.ref 116), some (.int l1), some (.int l2), some (.int l3), some (.int l4), some (.int (l5 + (nI 1))), none, some (.int l7), none], [], D, E)) rfl ?_
    exact gv_w (K39 _ _ _ _ _ _ _ h) (And.intro rfl (And.intro rfl (And.intro rfl (And.intro rfl (And.intro rfl (And.intro rfl trivial))))))
  · refine gv_n hq 6 (S' := (245, [some (.ref 116), some (.int l1), some (.int l2), some (.int l3), some (.int l4), some (.int l5), none, some (.int l7), none], [.int l7, .ref 135, .int l7, .ref 134], D, E)) rfl ?_
    refine gv_ia hq rfl rfl rfl h 246 rfl (fun h => ?_)
    refine gv_is hq rfl rfl h 247 rfl (fun h => ?_)
    refine gv_n hq 2 (S' := (223, [some (.ref 116), some (.int l1), some (.int l2), some (.int l3), some (.int l4), some (.int l5), none, some (.int (l7 + (nI 1))), none], [], (sD D 134 (l7).toNatClampNeg (D 135 (l7).toNatClampNeg)), E)) rfl ?_
    exact gv_w (K223 _ _ _ _ _ _ _ _ h) (And.intro rfl (And.intro rfl (And.intro rfl (And.intro rfl (And.intro rfl (And.intro rfl (And.intro rfl trivial)))))))
def g_M_seenBy_223 (F : Nat) (E : mx_E) (k39 : Int32 → Int32 → Int32 → Int32 → Int32 → mx_D → Option (Int32 × mx_D)) : Nat → Int32 → Int32 → Int32 → Int32 → Int32 → Int32 → mx_D → Option (Int32 × mx_D) := it (fun k223 => b_M_seenBy_223 F E k39 k223) (fun _ _ _ _ _ _ _ => none)
set_option maxRecDepth 100000 in
set_option maxHeartbeats 4000000 in
theorem t_M_seenBy_223 (X : ev_X) (F : Nat) (d : Nat) (hd : 3 ≤ d + 1) (E : mx_E) (k39 : Int32 → Int32 → Int32 → Int32 → Int32 → mx_D → Option (Int32 × mx_D)) (K39 : ∀ (l1 : Int32) (l2 : Int32) (l3 : Int32) (l4 : Int32) (l5 : Int32) (D : mx_D) (v : Int32 × mx_D), k39 l1 l2 l3 l4 l5 D = some v → ev X (d + 1) 315 (39, [some (.ref 116), some (.int l1), some (.int l2), some (.int l3), some (.int l4), some (.int l5), none, none, none], [], D, E) (qR (some (.int v.1)) v.2 E)) : ∀ (n : Nat) (l1 : Int32) (l2 : Int32) (l3 : Int32) (l4 : Int32) (l5 : Int32) (l7 : Int32) (D : mx_D) (v : Int32 × mx_D), g_M_seenBy_223 F E k39 n l1 l2 l3 l4 l5 l7 D = some v → ev X (d + 1) 315 (223, [some (.ref 116), some (.int l1), some (.int l2), some (.int l3), some (.int l4), some (.int l5), none, some (.int l7), none], [], D, E) (qR (some (.int v.1)) v.2 E) := by
  intro n
  induction n with
  | zero => intro l1 l2 l3 l4 l5 l7 D v h; cases h
  | succ n ih => intro l1 l2 l3 l4 l5 l7 D v h; exact tb_M_seenBy_223 X F d hd E k39 (g_M_seenBy_223 F E k39 n) K39 ih l1 l2 l3 l4 l5 l7 D v h
def b_M_seenBy_166 (F : Nat) (E : mx_E) (k39 : Int32 → Int32 → Int32 → Int32 → Int32 → mx_D → Option (Int32 × mx_D)) (k110 : Int32 → Int32 → Int32 → Int32 → Int32 → Int32 → Int32 → mx_D → Option (Int32 × mx_D)) (k166 : Int32 → Int32 → Int32 → Int32 → Int32 → Int32 → Int32 → Int32 → mx_D → Option (Int32 × mx_D)) (l1 : Int32) (l2 : Int32) (l3 : Int32) (l4 : Int32) (l5 : Int32) (l6 : Int32) (l7 : Int32) (l8 : Int32) (D : mx_D) : Option (Int32 × mx_D) := (if (nI 256) ≤ l8 then (k110 l1 l2 l3 l4 l5 l6 (l7 + (nI 1)) D) else (if ((l8 >>> (l7 &&& 31)) &&& (nI 1)) = 0 then (rk 256 (l8 ||| ((nI 1) <<< (l7 &&& 31))) (rk 256 l8 (rk 256 (l8 ||| ((nI 1) <<< (l7 &&& 31))) (k166 l1 l2 l3 l4 l5 l6 l7 (l8 + (nI 1)) (sD D 135 ((l8 ||| ((nI 1) <<< (l7 &&& 31)))).toNatClampNeg ((D 135 ((l8 ||| ((nI 1) <<< (l7 &&& 31)))).toNatClampNeg) + (D 134 (l8).toNatClampNeg))))))) else (k166 l1 l2 l3 l4 l5 l6 l7 (l8 + (nI 1)) D)))
set_option maxRecDepth 100000 in
set_option maxHeartbeats 4000000 in
theorem tb_M_seenBy_166 (X : ev_X) (F : Nat) (d : Nat) (hd : 3 ≤ d + 1) (E : mx_E) (k39 : Int32 → Int32 → Int32 → Int32 → Int32 → mx_D → Option (Int32 × mx_D)) (k110 : Int32 → Int32 → Int32 → Int32 → Int32 → Int32 → Int32 → mx_D → Option (Int32 × mx_D)) (k166 : Int32 → Int32 → Int32 → Int32 → Int32 → Int32 → Int32 → Int32 → mx_D → Option (Int32 × mx_D)) (K39 : ∀ (l1 : Int32) (l2 : Int32) (l3 : Int32) (l4 : Int32) (l5 : Int32) (D : mx_D) (v : Int32 × mx_D), k39 l1 l2 l3 l4 l5 D = some v → ev X (d + 1) 315 (39, [some (.ref 116), some (.int l1), some (.int l2), some (.int l3), some (.int l4), some (.int l5), none, none, none], [], D, E) (qR (some (.int v.1)) v.2 E)) (K110 : ∀ (l1 : Int32) (l2 : Int32) (l3 : Int32) (l4 : Int32) (l5 : Int32) (l6 : Int32) (l7 : Int32) (D : mx_D) (v : Int32 × mx_D), k110 l1 l2 l3 l4 l5 l6 l7 D = some v → ev X (d + 1) 315 (110, [some (.ref 116), some (.int l1), some (.int l2), some (.int l3), some (.int l4), some (.int l5), some (.int l6), some (.int l7), none], [], D, E) (qR (some (.int v.1)) v.2 E)) (K166 : ∀ (l1 : Int32) (l2 : Int32) (l3 : Int32) (l4 : Int32) (l5 : Int32) (l6 : Int32) (l7 : Int32) (l8 : Int32) (D : mx_D) (v : Int32 × mx_D), k166 l1 l2 l3 l4 l5 l6 l7 l8 D = some v → ev X (d + 1) 315 (166, [some (.ref 116), some (.int l1), some (.int l2), some (.int l3), some (.int l4), some (.int l5), some (.int l6), some (.int l7), some (.int l8)], [], D, E) (qR (some (.int v.1)) v.2 E)) (l1 : Int32) (l2 : Int32) (l3 : Int32) (l4 : Int32) (l5 : Int32) (l6 : Int32) (l7 : Int32) (l8 : Int32) (D : mx_D) (v : Int32 × mx_D) (h : b_M_seenBy_166 F E k39 k110 k166 l1 l2 l3 l4 l5 l6 l7 l8 D = some v) : ev X (d + 1) 315 (166, [some (.ref 116), some (.int l1), some (.int l2), some (.int l3), some (.int l4), some (.int l5), some (.int l6), some (.int l7), some (.int l8)], [], D, E) (qR (some (.int v.1)) v.2 E) := by
  have hq : kq_m 315 = some kq_q315 := rfl
  unfold b_M_seenBy_166 at h
  refine gv_n hq 4 (S' := (173, [some (.ref 116), some (.int l1), some (.int l2), some (.int l3), some (.int l4), some (.int l5), some (.int l6), some (.int l7), some (.int l8)], [.int (nI 256), .int l8], D, E)) rfl ?_
  refine gv_b hq rfl h 214 176 rfl rfl rfl (fun h => ?_) (fun h => ?_)
  · refine gv_n hq 2 (S' := (110, [some (.ref 116), some (.int l1), some (.int l2), some (.int l3), some (.int l4), some (.int l5), some (.int l6), some (.int (l7 + (nI 1))), some (.int l8)], [], D, E)) rfl ?_
    exact gv_w (K110 _ _ _ _ _ _ _ _ _ h) (And.intro rfl (And.intro rfl (And.intro rfl (And.intro rfl (And.intro rfl (And.intro rfl (And.intro rfl (And.intro rfl trivial))))))))
  · refine gv_n hq 5 (S' := (183, [some (.ref 116), some (.int l1), some (.int l2), some (.int l3), some (.int l4), some (.int l5), some (.int l6), some (.int l7), some (.int l8)], [.int ((l8 >>> (l7 &&& 31)) &&& (nI 1))], D, E)) rfl ?_
    refine gv_b hq rfl h 186 208 rfl rfl rfl (fun h => ?_) (fun h => ?_)
    · refine gv_n hq 8 (S' := (198, [some (.ref 116), some (.int l1), some (.int l2), some (.int l3), some (.int l4), some (.int l5), some (.int l6), some (.int l7), some (.int l8)], [.int (l8 ||| ((nI 1) <<< (l7 &&& 31))), .ref 135, .int (l8 ||| ((nI 1) <<< (l7 &&& 31))), .ref 135], D, E)) rfl ?_
      refine gv_ia hq rfl rfl rfl h 199 rfl (fun h => ?_)
      refine gv_n hq 3 (S' := (205, [some (.ref 116), some (.int l1), some (.int l2), some (.int l3), some (.int l4), some (.int l5), some (.int l6), some (.int l7), some (.int l8)], [.int l8, .ref 134, .int (D 135 ((l8 ||| ((nI 1) <<< (l7 &&& 31)))).toNatClampNeg), .int (l8 ||| ((nI 1) <<< (l7 &&& 31))), .ref 135], D, E)) rfl ?_
      refine gv_ia hq rfl rfl rfl h 206 rfl (fun h => ?_)
      refine gv_n hq 1 (S' := (207, [some (.ref 116), some (.int l1), some (.int l2), some (.int l3), some (.int l4), some (.int l5), some (.int l6), some (.int l7), some (.int l8)], [.int ((D 135 ((l8 ||| ((nI 1) <<< (l7 &&& 31)))).toNatClampNeg) + (D 134 (l8).toNatClampNeg)), .int (l8 ||| ((nI 1) <<< (l7 &&& 31))), .ref 135], D, E)) rfl ?_
      refine gv_is hq rfl rfl h 208 rfl (fun h => ?_)
      refine gv_n hq 2 (S' := (166, [some (.ref 116), some (.int l1), some (.int l2), some (.int l3), some (.int l4), some (.int l5), some (.int l6), some (.int l7), some (.int (l8 + (nI 1)))], [], (sD D 135 ((l8 ||| ((nI 1) <<< (l7 &&& 31)))).toNatClampNeg ((D 135 ((l8 ||| ((nI 1) <<< (l7 &&& 31)))).toNatClampNeg) + (D 134 (l8).toNatClampNeg))), E)) rfl ?_
      exact gv_w (K166 _ _ _ _ _ _ _ _ _ _ h) (And.intro rfl (And.intro rfl (And.intro rfl (And.intro rfl (And.intro rfl (And.intro rfl (And.intro rfl (And.intro rfl (And.intro rfl trivial)))))))))
    · refine gv_n hq 2 (S' := (166, [some (.ref 116), some (.int l1), some (.int l2), some (.int l3), some (.int l4), some (.int l5), some (.int l6), some (.int l7), some (.int (l8 + (nI 1)))], [], D, E)) rfl ?_
      exact gv_w (K166 _ _ _ _ _ _ _ _ _ _ h) (And.intro rfl (And.intro rfl (And.intro rfl (And.intro rfl (And.intro rfl (And.intro rfl (And.intro rfl (And.intro rfl (And.intro rfl trivial)))))))))
def g_M_seenBy_166 (F : Nat) (E : mx_E) (k39 : Int32 → Int32 → Int32 → Int32 → Int32 → mx_D → Option (Int32 × mx_D)) (k110 : Int32 → Int32 → Int32 → Int32 → Int32 → Int32 → Int32 → mx_D → Option (Int32 × mx_D)) : Nat → Int32 → Int32 → Int32 → Int32 → Int32 → Int32 → Int32 → Int32 → mx_D → Option (Int32 × mx_D) := it (fun k166 => b_M_seenBy_166 F E k39 k110 k166) (fun _ _ _ _ _ _ _ _ _ => none)
set_option maxRecDepth 100000 in
set_option maxHeartbeats 4000000 in
theorem t_M_seenBy_166 (X : ev_X) (F : Nat) (d : Nat) (hd : 3 ≤ d + 1) (E : mx_E) (k39 : Int32 → Int32 → Int32 → Int32 → Int32 → mx_D → Option (Int32 × mx_D)) (k110 : Int32 → Int32 → Int32 → Int32 → Int32 → Int32 → Int32 → mx_D → Option (Int32 × mx_D)) (K39 : ∀ (l1 : Int32) (l2 : Int32) (l3 : Int32) (l4 : Int32) (l5 : Int32) (D : mx_D) (v : Int32 × mx_D), k39 l1 l2 l3 l4 l5 D = some v → ev X (d + 1) 315 (39, [some (.ref 116), some (.int l1), some (.int l2), some (.int l3), some (.int l4), some (.int l5), none, none, none], [], D, E) (qR (some (.int v.1)) v.2 E)) (K110 : ∀ (l1 : Int32) (l2 : Int32) (l3 : Int32) (l4 : Int32) (l5 : Int32) (l6 : Int32) (l7 : Int32) (D : mx_D) (v : Int32 × mx_D), k110 l1 l2 l3 l4 l5 l6 l7 D = some v → ev X (d + 1) 315 (110, [some (.ref 116), some (.int l1), some (.int l2), some (.int l3), some (.int l4), some (.int l5), some (.int l6), some (.int l7), none], [], D, E) (qR (some (.int v.1)) v.2 E)) : ∀ (n : Nat) (l1 : Int32) (l2 : Int32) (l3 : Int32) (l4 : Int32) (l5 : Int32) (l6 : Int32) (l7 : Int32) (l8 : Int32) (D : mx_D) (v : Int32 × mx_D), g_M_seenBy_166 F E k39 k110 n l1 l2 l3 l4 l5 l6 l7 l8 D = some v → ev X (d + 1) 315 (166, [some (.ref 116), some (.int l1), some (.int l2), some (.int l3), some (.int l4), some (.int l5), some (.int l6), some (.int l7), some (.int l8)], [], D, E) (qR (some (.int v.1)) v.2 E) := by
  intro n
  induction n with
  | zero => intro l1 l2 l3 l4 l5 l6 l7 l8 D v h; cases h
  | succ n ih => intro l1 l2 l3 l4 l5 l6 l7 l8 D v h; exact tb_M_seenBy_166 X F d hd E k39 k110 (g_M_seenBy_166 F E k39 k110 n) K39 K110 ih l1 l2 l3 l4 l5 l6 l7 l8 D v h
def b_M_seenBy_110 (F : Nat) (E : mx_E) (k39 : Int32 → Int32 → Int32 → Int32 → Int32 → mx_D → Option (Int32 × mx_D)) (k110 : Int32 → Int32 → Int32 → Int32 → Int32 → Int32 → Int32 → mx_D → Option (Int32 × mx_D)) (l1 : Int32) (l2 : Int32) (l3 : Int32) (l4 : Int32) (l5 : Int32) (l6 : Int32) (l7 : Int32) (D : mx_D) : Option (Int32 × mx_D) := (if (D 117 4) ≤ l7 then (g_M_seenBy_223 F E k39 F l1 l2 l3 l4 l5 (nI 0) D) else (Option.bind (g_M_bodyOf F D l7 l2) (fun r4 => (Option.bind (g_M_numberAt E l1 (((nI 3) * l5) + (nI 2))) (fun r5 => (if (lg_cmp (((r4 + l6)).toInt64) r5) = 0 then (if l5 = l3 then (if l7 = l4 then (g_M_seenBy_166 F E k39 k110 F l1 l2 l3 l4 l5 l6 l7 (nI 0) D) else (k110 l1 l2 l3 l4 l5 l6 (l7 + (nI 1)) D)) else (g_M_seenBy_166 F E k39 k110 F l1 l2 l3 l4 l5 l6 l7 (nI 0) D)) else (k110 l1 l2 l3 l4 l5 l6 (l7 + (nI 1)) D)))))))
set_option maxRecDepth 100000 in
set_option maxHeartbeats 4000000 in
theorem tb_M_seenBy_110 (X : ev_X) (F : Nat) (d : Nat) (hd : 3 ≤ d + 1) (E : mx_E) (k39 : Int32 → Int32 → Int32 → Int32 → Int32 → mx_D → Option (Int32 × mx_D)) (k110 : Int32 → Int32 → Int32 → Int32 → Int32 → Int32 → Int32 → mx_D → Option (Int32 × mx_D)) (K39 : ∀ (l1 : Int32) (l2 : Int32) (l3 : Int32) (l4 : Int32) (l5 : Int32) (D : mx_D) (v : Int32 × mx_D), k39 l1 l2 l3 l4 l5 D = some v → ev X (d + 1) 315 (39, [some (.ref 116), some (.int l1), some (.int l2), some (.int l3), some (.int l4), some (.int l5), none, none, none], [], D, E) (qR (some (.int v.1)) v.2 E)) (K110 : ∀ (l1 : Int32) (l2 : Int32) (l3 : Int32) (l4 : Int32) (l5 : Int32) (l6 : Int32) (l7 : Int32) (D : mx_D) (v : Int32 × mx_D), k110 l1 l2 l3 l4 l5 l6 l7 D = some v → ev X (d + 1) 315 (110, [some (.ref 116), some (.int l1), some (.int l2), some (.int l3), some (.int l4), some (.int l5), some (.int l6), some (.int l7), none], [], D, E) (qR (some (.int v.1)) v.2 E)) (l1 : Int32) (l2 : Int32) (l3 : Int32) (l4 : Int32) (l5 : Int32) (l6 : Int32) (l7 : Int32) (D : mx_D) (v : Int32 × mx_D) (h : b_M_seenBy_110 F E k39 k110 l1 l2 l3 l4 l5 l6 l7 D = some v) : ev X (d + 1) 315 (110, [some (.ref 116), some (.int l1), some (.int l2), some (.int l3), some (.int l4), some (.int l5), some (.int l6), some (.int l7), none], [], D, E) (qR (some (.int v.1)) v.2 E) := by
  have hq : kq_m 315 = some kq_q315 := rfl
  unfold b_M_seenBy_110 at h
  refine gv_n hq 5 (S' := (118, [some (.ref 116), some (.int l1), some (.int l2), some (.int l3), some (.int l4), some (.int l5), some (.int l6), some (.int l7), none], [.int (D 117 4), .int l7], D, E)) rfl ?_
  refine gv_b hq rfl h 220 121 rfl rfl rfl (fun h => ?_) (fun h => ?_)
  · refine gv_n hq 2 (S' := (223, [some (.ref 116), some (.int l1), some (.int l2), some (.int l3), some (.int l4), some (.int l5), some (.int l6), some (.int (nI 0)), none], [], D, E)) rfl ?_
    exact gv_w (t_M_seenBy_223 X F d hd E k39 K39 F _ _ _ _ _ _ _ _ h) (And.intro rfl (And.intro rfl (And.intro rfl (And.intro rfl (And.intro rfl (And.intro rfl (And.intro rfl trivial)))))))
  · refine gv_n hq 3 (S' := (125, [some (.ref 116), some (.int l1), some (.int l2), some (.int l3), some (.int l4), some (.int l5), some (.int l6), some (.int l7), none], [.int l2, .int l7, .ref 116], D, E)) rfl ?_
    obtain ⟨r4, h1, h⟩ := Option.bind_eq_some_iff.mp h
    refine gv_d hq rfl rfl rfl rfl rfl (gv_dd (by omega) (t_M_bodyOf X F (d - 1) (by omega) D E _ _ _ h1)) (S' := (128, [some (.ref 116), some (.int l1), some (.int l2), some (.int l3), some (.int l4), some (.int l5), some (.int l6), some (.int l7), none], [.int r4], D, E)) rfl ?_
    refine gv_n hq 10 (S' := (140, [some (.ref 116), some (.int l1), some (.int l2), some (.int l3), some (.int l4), some (.int l5), some (.int l6), some (.int l7), none], [.int (((nI 3) * l5) + (nI 2)), .int l1, .ref 116, .long (((r4 + l6)).toInt64)], D, E)) rfl ?_
    obtain ⟨r5, h1, h⟩ := Option.bind_eq_some_iff.mp h
    refine gv_d hq rfl rfl rfl rfl rfl ((t_M_numberAt X d D E _ _ _ h1)) (S' := (143, [some (.ref 116), some (.int l1), some (.int l2), some (.int l3), some (.int l4), some (.int l5), some (.int l6), some (.int l7), none], [.long r5, .long (((r4 + l6)).toInt64)], D, E)) rfl ?_
    refine gv_n hq 1 (S' := (144, [some (.ref 116), some (.int l1), some (.int l2), some (.int l3), some (.int l4), some (.int l5), some (.int l6), some (.int l7), none], [.int (lg_cmp (((r4 + l6)).toInt64) r5)], D, E)) rfl ?_
    refine gv_b hq rfl h 147 214 rfl rfl rfl (fun h => ?_) (fun h => ?_)
    · refine gv_n hq 2 (S' := (150, [some (.ref 116), some (.int l1), some (.int l2), some (.int l3), some (.int l4), some (.int l5), some (.int l6), some (.int l7), none], [.int l3, .int l5], D, E)) rfl ?_
      refine gv_b hq rfl h 153 163 rfl rfl rfl (fun h => ?_) (fun h => ?_)
      · refine gv_n hq 2 (S' := (157, [some (.ref 116), some (.int l1), some (.int l2), some (.int l3), some (.int l4), some (.int l5), some (.int l6), some (.int l7), none], [.int l4, .int l7], D, E)) rfl ?_
        refine gv_b hq rfl h 163 160 rfl rfl rfl (fun h => ?_) (fun h => ?_)
        · refine gv_n hq 2 (S' := (166, [some (.ref 116), some (.int l1), some (.int l2), some (.int l3), some (.int l4), some (.int l5), some (.int l6), some (.int l7), some (.int (nI 0))], [], D, E)) rfl ?_
          exact gv_w (t_M_seenBy_166 X F d hd E k39 k110 K39 K110 F _ _ _ _ _ _ _ _ _ _ h) (And.intro rfl (And.intro rfl (And.intro rfl (And.intro rfl (And.intro rfl (And.intro rfl (And.intro rfl (And.intro rfl (And.intro rfl trivial)))))))))
        · refine gv_n hq 3 (S' := (110, [some (.ref 116), some (.int l1), some (.int l2), some (.int l3), some (.int l4), some (.int l5), some (.int l6), some (.int (l7 + (nI 1))), none], [], D, E)) rfl ?_
          exact gv_w (K110 _ _ _ _ _ _ _ _ _ h) (And.intro rfl (And.intro rfl (And.intro rfl (And.intro rfl (And.intro rfl (And.intro rfl (And.intro rfl (And.intro rfl trivial))))))))
      · refine gv_n hq 2 (S' := (166, [some (.ref 116), some (.int l1), some (.int l2), some (.int l3), some (.int l4), some (.int l5), some (.int l6), some (.int l7), some (.int (nI 0))], [], D, E)) rfl ?_
        exact gv_w (t_M_seenBy_166 X F d hd E k39 k110 K39 K110 F _ _ _ _ _ _ _ _ _ _ h) (And.intro rfl (And.intro rfl (And.intro rfl (And.intro rfl (And.intro rfl (And.intro rfl (And.intro rfl (And.intro rfl (And.intro rfl trivial)))))))))
    · refine gv_n hq 2 (S' := (110, [some (.ref 116), some (.int l1), some (.int l2), some (.int l3), some (.int l4), some (.int l5), some (.int l6), some (.int (l7 + (nI 1))), none], [], D, E)) rfl ?_
      exact gv_w (K110 _ _ _ _ _ _ _ _ _ h) (And.intro rfl (And.intro rfl (And.intro rfl (And.intro rfl (And.intro rfl (And.intro rfl (And.intro rfl (And.intro rfl trivial))))))))
def g_M_seenBy_110 (F : Nat) (E : mx_E) (k39 : Int32 → Int32 → Int32 → Int32 → Int32 → mx_D → Option (Int32 × mx_D)) : Nat → Int32 → Int32 → Int32 → Int32 → Int32 → Int32 → Int32 → mx_D → Option (Int32 × mx_D) := it (fun k110 => b_M_seenBy_110 F E k39 k110) (fun _ _ _ _ _ _ _ _ => none)
set_option maxRecDepth 100000 in
set_option maxHeartbeats 4000000 in
theorem t_M_seenBy_110 (X : ev_X) (F : Nat) (d : Nat) (hd : 3 ≤ d + 1) (E : mx_E) (k39 : Int32 → Int32 → Int32 → Int32 → Int32 → mx_D → Option (Int32 × mx_D)) (K39 : ∀ (l1 : Int32) (l2 : Int32) (l3 : Int32) (l4 : Int32) (l5 : Int32) (D : mx_D) (v : Int32 × mx_D), k39 l1 l2 l3 l4 l5 D = some v → ev X (d + 1) 315 (39, [some (.ref 116), some (.int l1), some (.int l2), some (.int l3), some (.int l4), some (.int l5), none, none, none], [], D, E) (qR (some (.int v.1)) v.2 E)) : ∀ (n : Nat) (l1 : Int32) (l2 : Int32) (l3 : Int32) (l4 : Int32) (l5 : Int32) (l6 : Int32) (l7 : Int32) (D : mx_D) (v : Int32 × mx_D), g_M_seenBy_110 F E k39 n l1 l2 l3 l4 l5 l6 l7 D = some v → ev X (d + 1) 315 (110, [some (.ref 116), some (.int l1), some (.int l2), some (.int l3), some (.int l4), some (.int l5), some (.int l6), some (.int l7), none], [], D, E) (qR (some (.int v.1)) v.2 E) := by
  intro n
  induction n with
  | zero => intro l1 l2 l3 l4 l5 l6 l7 D v h; cases h
  | succ n ih => intro l1 l2 l3 l4 l5 l6 l7 D v h; exact tb_M_seenBy_110 X F d hd E k39 (g_M_seenBy_110 F E k39 n) K39 ih l1 l2 l3 l4 l5 l6 l7 D v h
def b_M_seenBy_83 (F : Nat) (E : mx_E) (k39 : Int32 → Int32 → Int32 → Int32 → Int32 → mx_D → Option (Int32 × mx_D)) (k83 : Int32 → Int32 → Int32 → Int32 → Int32 → Int32 → Int32 → mx_D → Option (Int32 × mx_D)) (l1 : Int32) (l2 : Int32) (l3 : Int32) (l4 : Int32) (l5 : Int32) (l6 : Int32) (l7 : Int32) (D : mx_D) : Option (Int32 × mx_D) := (if (nI 256) ≤ l7 then (g_M_seenBy_110 F E k39 F l1 l2 l3 l4 l5 l6 (nI 0) D) else (rk 256 l7 (k83 l1 l2 l3 l4 l5 l6 (l7 + (nI 1)) (sD D 135 (l7).toNatClampNeg (nI 0)))))
set_option maxRecDepth 100000 in
set_option maxHeartbeats 4000000 in
theorem tb_M_seenBy_83 (X : ev_X) (F : Nat) (d : Nat) (hd : 3 ≤ d + 1) (E : mx_E) (k39 : Int32 → Int32 → Int32 → Int32 → Int32 → mx_D → Option (Int32 × mx_D)) (k83 : Int32 → Int32 → Int32 → Int32 → Int32 → Int32 → Int32 → mx_D → Option (Int32 × mx_D)) (K39 : ∀ (l1 : Int32) (l2 : Int32) (l3 : Int32) (l4 : Int32) (l5 : Int32) (D : mx_D) (v : Int32 × mx_D), k39 l1 l2 l3 l4 l5 D = some v → ev X (d + 1) 315 (39, [some (.ref 116), some (.int l1), some (.int l2), some (.int l3), some (.int l4), some (.int l5), none, none, none], [], D, E) (qR (some (.int v.1)) v.2 E)) (K83 : ∀ (l1 : Int32) (l2 : Int32) (l3 : Int32) (l4 : Int32) (l5 : Int32) (l6 : Int32) (l7 : Int32) (D : mx_D) (v : Int32 × mx_D), k83 l1 l2 l3 l4 l5 l6 l7 D = some v → ev X (d + 1) 315 (83, [some (.ref 116), some (.int l1), some (.int l2), some (.int l3), some (.int l4), some (.int l5), some (.int l6), some (.int l7), none], [], D, E) (qR (some (.int v.1)) v.2 E)) (l1 : Int32) (l2 : Int32) (l3 : Int32) (l4 : Int32) (l5 : Int32) (l6 : Int32) (l7 : Int32) (D : mx_D) (v : Int32 × mx_D) (h : b_M_seenBy_83 F E k39 k83 l1 l2 l3 l4 l5 l6 l7 D = some v) : ev X (d + 1) 315 (83, [some (.ref 116), some (.int l1), some (.int l2), some (.int l3), some (.int l4), some (.int l5), some (.int l6), some (.int l7), none], [], D, E) (qR (some (.int v.1)) v.2 E) := by
  have hq : kq_m 315 = some kq_q315 := rfl
  unfold b_M_seenBy_83 at h
  refine gv_n hq 4 (S' := (90, [some (.ref 116), some (.int l1), some (.int l2), some (.int l3), some (.int l4), some (.int l5), some (.int l6), some (.int l7), none], [.int (nI 256), .int l7], D, E)) rfl ?_
  refine gv_b hq rfl h 107 93 rfl rfl rfl (fun h => ?_) (fun h => ?_)
  · refine gv_n hq 2 (S' := (110, [some (.ref 116), some (.int l1), some (.int l2), some (.int l3), some (.int l4), some (.int l5), some (.int l6), some (.int (nI 0)), none], [], D, E)) rfl ?_
    exact gv_w (t_M_seenBy_110 X F d hd E k39 K39 F _ _ _ _ _ _ _ _ _ h) (And.intro rfl (And.intro rfl (And.intro rfl (And.intro rfl (And.intro rfl (And.intro rfl (And.intro rfl (And.intro rfl trivial))))))))
  · refine gv_n hq 4 (S' := (100, [some (.ref 116), some (.int l1), some (.int l2), some (.int l3), some (.int l4), some (.int l5), some (.int l6), some (.int l7), none], [.int (nI 0), .int l7, .ref 135], D, E)) rfl ?_
    refine gv_is hq rfl rfl h 101 rfl (fun h => ?_)
    refine gv_n hq 2 (S' := (83, [some (.ref 116), some (.int l1), some (.int l2), some (.int l3), some (.int l4), some (.int l5), some (.int l6), some (.int (l7 + (nI 1))), none], [], (sD D 135 (l7).toNatClampNeg (nI 0)), E)) rfl ?_
    exact gv_w (K83 _ _ _ _ _ _ _ _ _ h) (And.intro rfl (And.intro rfl (And.intro rfl (And.intro rfl (And.intro rfl (And.intro rfl (And.intro rfl (And.intro rfl trivial))))))))
def g_M_seenBy_83 (F : Nat) (E : mx_E) (k39 : Int32 → Int32 → Int32 → Int32 → Int32 → mx_D → Option (Int32 × mx_D)) : Nat → Int32 → Int32 → Int32 → Int32 → Int32 → Int32 → Int32 → mx_D → Option (Int32 × mx_D) := it (fun k83 => b_M_seenBy_83 F E k39 k83) (fun _ _ _ _ _ _ _ _ => none)
set_option maxRecDepth 100000 in
set_option maxHeartbeats 4000000 in
theorem t_M_seenBy_83 (X : ev_X) (F : Nat) (d : Nat) (hd : 3 ≤ d + 1) (E : mx_E) (k39 : Int32 → Int32 → Int32 → Int32 → Int32 → mx_D → Option (Int32 × mx_D)) (K39 : ∀ (l1 : Int32) (l2 : Int32) (l3 : Int32) (l4 : Int32) (l5 : Int32) (D : mx_D) (v : Int32 × mx_D), k39 l1 l2 l3 l4 l5 D = some v → ev X (d + 1) 315 (39, [some (.ref 116), some (.int l1), some (.int l2), some (.int l3), some (.int l4), some (.int l5), none, none, none], [], D, E) (qR (some (.int v.1)) v.2 E)) : ∀ (n : Nat) (l1 : Int32) (l2 : Int32) (l3 : Int32) (l4 : Int32) (l5 : Int32) (l6 : Int32) (l7 : Int32) (D : mx_D) (v : Int32 × mx_D), g_M_seenBy_83 F E k39 n l1 l2 l3 l4 l5 l6 l7 D = some v → ev X (d + 1) 315 (83, [some (.ref 116), some (.int l1), some (.int l2), some (.int l3), some (.int l4), some (.int l5), some (.int l6), some (.int l7), none], [], D, E) (qR (some (.int v.1)) v.2 E) := by
  intro n
  induction n with
  | zero => intro l1 l2 l3 l4 l5 l6 l7 D v h; cases h
  | succ n ih => intro l1 l2 l3 l4 l5 l6 l7 D v h; exact tb_M_seenBy_83 X F d hd E k39 (g_M_seenBy_83 F E k39 n) K39 ih l1 l2 l3 l4 l5 l6 l7 D v h
def b_M_seenBy_39 (F : Nat) (E : mx_E) (k39 : Int32 → Int32 → Int32 → Int32 → Int32 → mx_D → Option (Int32 × mx_D)) (l1 : Int32) (l2 : Int32) (l3 : Int32) (l4 : Int32) (l5 : Int32) (D : mx_D) : Option (Int32 × mx_D) := (rk 4 l1 (if (D 137 (l1).toNatClampNeg) ≤ ((nI 3) * l5) then (g_M_seenBy_265 F E F (nI 0) (nI 0) D) else (Option.bind (g_M_numberAt E l1 ((nI 3) * l5)) (fun r1 => (Option.bind (g_M_numberAt E l1 (((nI 3) * l5) + (nI 1))) (fun r2 => (Option.bind (g_M_floorOf D ((r1).toInt32) ((r2).toInt32)) (fun r3 => (g_M_seenBy_83 F E k39 F l1 l2 l3 l4 l5 r3 (nI 0) D)))))))))
set_option maxRecDepth 100000 in
set_option maxHeartbeats 4000000 in
theorem tb_M_seenBy_39 (X : ev_X) (F : Nat) (d : Nat) (hd : 3 ≤ d + 1) (E : mx_E) (k39 : Int32 → Int32 → Int32 → Int32 → Int32 → mx_D → Option (Int32 × mx_D)) (K39 : ∀ (l1 : Int32) (l2 : Int32) (l3 : Int32) (l4 : Int32) (l5 : Int32) (D : mx_D) (v : Int32 × mx_D), k39 l1 l2 l3 l4 l5 D = some v → ev X (d + 1) 315 (39, [some (.ref 116), some (.int l1), some (.int l2), some (.int l3), some (.int l4), some (.int l5), none, none, none], [], D, E) (qR (some (.int v.1)) v.2 E)) (l1 : Int32) (l2 : Int32) (l3 : Int32) (l4 : Int32) (l5 : Int32) (D : mx_D) (v : Int32 × mx_D) (h : b_M_seenBy_39 F E k39 l1 l2 l3 l4 l5 D = some v) : ev X (d + 1) 315 (39, [some (.ref 116), some (.int l1), some (.int l2), some (.int l3), some (.int l4), some (.int l5), none, none, none], [], D, E) (qR (some (.int v.1)) v.2 E) := by
  have hq : kq_m 315 = some kq_q315 := rfl
  unfold b_M_seenBy_39 at h
  refine gv_n hq 6 (S' := (48, [some (.ref 116), some (.int l1), some (.int l2), some (.int l3), some (.int l4), some (.int l5), none, none, none], [.int l1, .ref 137, .int ((nI 3) * l5)], D, E)) rfl ?_
  refine gv_ia hq rfl rfl rfl h 49 rfl (fun h => ?_)
  refine gv_b hq rfl h 259 52 rfl rfl rfl (fun h => ?_) (fun h => ?_)
  · refine gv_n hq 4 (S' := (265, [some (.ref 116), some (.int l1), some (.int l2), some (.int l3), some (.int l4), some (.int (nI 0)), some (.int (nI 0)), none, none], [], D, E)) rfl ?_
    exact gv_w (t_M_seenBy_265 X F d hd E F _ _ _ _ h) (And.intro rfl (And.intro rfl (And.intro rfl trivial)))
  · refine gv_n hq 6 (S' := (59, [some (.ref 116), some (.int l1), some (.int l2), some (.int l3), some (.int l4), some (.int l5), none, none, none], [.int ((nI 3) * l5), .int l1, .ref 116, .ref 116], D, E)) rfl ?_
    obtain ⟨r1, h1, h⟩ := Option.bind_eq_some_iff.mp h
    refine gv_d hq rfl rfl rfl rfl rfl ((t_M_numberAt X d D E _ _ _ h1)) (S' := (62, [some (.ref 116), some (.int l1), some (.int l2), some (.int l3), some (.int l4), some (.int l5), none, none, none], [.long r1, .ref 116], D, E)) rfl ?_
    refine gv_n hq 8 (S' := (71, [some (.ref 116), some (.int l1), some (.int l2), some (.int l3), some (.int l4), some (.int l5), none, none, none], [.int (((nI 3) * l5) + (nI 1)), .int l1, .ref 116, .int ((r1).toInt32), .ref 116], D, E)) rfl ?_
    obtain ⟨r2, h1, h⟩ := Option.bind_eq_some_iff.mp h
    refine gv_d hq rfl rfl rfl rfl rfl ((t_M_numberAt X d D E _ _ _ h1)) (S' := (74, [some (.ref 116), some (.int l1), some (.int l2), some (.int l3), some (.int l4), some (.int l5), none, none, none], [.long r2, .int ((r1).toInt32), .ref 116], D, E)) rfl ?_
    refine gv_n hq 1 (S' := (75, [some (.ref 116), some (.int l1), some (.int l2), some (.int l3), some (.int l4), some (.int l5), none, none, none], [.int ((r2).toInt32), .int ((r1).toInt32), .ref 116], D, E)) rfl ?_
    obtain ⟨r3, h1, h⟩ := Option.bind_eq_some_iff.mp h
    refine gv_d hq rfl rfl rfl rfl rfl (gv_dd (by omega) (t_M_floorOf X (d - 1) (by omega) D E _ _ _ h1)) (S' := (78, [some (.ref 116), some (.int l1), some (.int l2), some (.int l3), some (.int l4), some (.int l5), none, none, none], [.int r3], D, E)) rfl ?_
    refine gv_n hq 3 (S' := (83, [some (.ref 116), some (.int l1), some (.int l2), some (.int l3), some (.int l4), some (.int l5), some (.int r3), some (.int (nI 0)), none], [], D, E)) rfl ?_
    exact gv_w (t_M_seenBy_83 X F d hd E k39 K39 F _ _ _ _ _ _ _ _ _ h) (And.intro rfl (And.intro rfl (And.intro rfl (And.intro rfl (And.intro rfl (And.intro rfl (And.intro rfl (And.intro rfl trivial))))))))
def g_M_seenBy_39 (F : Nat) (E : mx_E) : Nat → Int32 → Int32 → Int32 → Int32 → Int32 → mx_D → Option (Int32 × mx_D) := it (fun k39 => b_M_seenBy_39 F E k39) (fun _ _ _ _ _ _ => none)
set_option maxRecDepth 100000 in
set_option maxHeartbeats 4000000 in
theorem t_M_seenBy_39 (X : ev_X) (F : Nat) (d : Nat) (hd : 3 ≤ d + 1) (E : mx_E)  : ∀ (n : Nat) (l1 : Int32) (l2 : Int32) (l3 : Int32) (l4 : Int32) (l5 : Int32) (D : mx_D) (v : Int32 × mx_D), g_M_seenBy_39 F E n l1 l2 l3 l4 l5 D = some v → ev X (d + 1) 315 (39, [some (.ref 116), some (.int l1), some (.int l2), some (.int l3), some (.int l4), some (.int l5), none, none, none], [], D, E) (qR (some (.int v.1)) v.2 E) := by
  intro n
  induction n with
  | zero => intro l1 l2 l3 l4 l5 D v h; cases h
  | succ n ih => intro l1 l2 l3 l4 l5 D v h; exact tb_M_seenBy_39 X F d hd E (g_M_seenBy_39 F E n) ih l1 l2 l3 l4 l5 D v h
def b_M_seenBy_3 (F : Nat) (E : mx_E) (k3 : Int32 → Int32 → Int32 → Int32 → Int32 → mx_D → Option (Int32 × mx_D)) (l1 : Int32) (l2 : Int32) (l3 : Int32) (l4 : Int32) (l5 : Int32) (D : mx_D) : Option (Int32 × mx_D) := (if (nI 256) ≤ l5 then (g_M_seenBy_39 F E F l1 l2 l3 l4 (nI 0) D) else (if l5 = 0 then (rk 256 l5 (k3 l1 l2 l3 l4 (l5 + (nI 1)) (sD D 134 (l5).toNatClampNeg (nI 1)))) else (rk 256 l5 (k3 l1 l2 l3 l4 (l5 + (nI 1)) (sD D 134 (l5).toNatClampNeg (nI 0))))))
set_option maxRecDepth 100000 in
set_option maxHeartbeats 4000000 in
theorem tb_M_seenBy_3 (X : ev_X) (F : Nat) (d : Nat) (hd : 3 ≤ d + 1) (E : mx_E) (k3 : Int32 → Int32 → Int32 → Int32 → Int32 → mx_D → Option (Int32 × mx_D)) (K3 : ∀ (l1 : Int32) (l2 : Int32) (l3 : Int32) (l4 : Int32) (l5 : Int32) (D : mx_D) (v : Int32 × mx_D), k3 l1 l2 l3 l4 l5 D = some v → ev X (d + 1) 315 (3, [some (.ref 116), some (.int l1), some (.int l2), some (.int l3), some (.int l4), some (.int l5), none, none, none], [], D, E) (qR (some (.int v.1)) v.2 E)) (l1 : Int32) (l2 : Int32) (l3 : Int32) (l4 : Int32) (l5 : Int32) (D : mx_D) (v : Int32 × mx_D) (h : b_M_seenBy_3 F E k3 l1 l2 l3 l4 l5 D = some v) : ev X (d + 1) 315 (3, [some (.ref 116), some (.int l1), some (.int l2), some (.int l3), some (.int l4), some (.int l5), none, none, none], [], D, E) (qR (some (.int v.1)) v.2 E) := by
  have hq : kq_m 315 = some kq_q315 := rfl
  unfold b_M_seenBy_3 at h
  refine gv_n hq 4 (S' := (10, [some (.ref 116), some (.int l1), some (.int l2), some (.int l3), some (.int l4), some (.int l5), none, none, none], [.int (nI 256), .int l5], D, E)) rfl ?_
  refine gv_b hq rfl h 36 13 rfl rfl rfl (fun h => ?_) (fun h => ?_)
  · refine gv_n hq 2 (S' := (39, [some (.ref 116), some (.int l1), some (.int l2), some (.int l3), some (.int l4), some (.int (nI 0)), none, none, none], [], D, E)) rfl ?_
    exact gv_w (t_M_seenBy_39 X F d hd E F _ _ _ _ _ _ _ h) (And.intro rfl (And.intro rfl (And.intro rfl (And.intro rfl (And.intro rfl (And.intro rfl trivial))))))
  · refine gv_n hq 4 (S' := (21, [some (.ref 116), some (.int l1), some (.int l2), some (.int l3), some (.int l4), some (.int l5), none, none, none], [.int l5, .int l5, .ref 134], D, E)) rfl ?_
    refine gv_b hq rfl h 24 28 rfl rfl rfl (fun h => ?_) (fun h => ?_)
    · refine gv_n hq 2 (S' := (29, [some (.ref 116), some (.int l1), some (.int l2), some (.int l3), some (.int l4), some (.int l5), none, none, none], [.int (nI 1), .int l5, .ref 134], D, E)) rfl ?_
      refine gv_is hq rfl rfl h 30 rfl (fun h => ?_)
      refine gv_n hq 2 (S' := (3, [some (.ref 116), some (.int l1), some (.int l2), some (.int l3), some (.int l4), some (.int (l5 + (nI 1))), none, none, none], [], (sD D 134 (l5).toNatClampNeg (nI 1)), E)) rfl ?_
      exact gv_w (K3 _ _ _ _ _ _ _ h) (And.intro rfl (And.intro rfl (And.intro rfl (And.intro rfl (And.intro rfl (And.intro rfl trivial))))))
    · refine gv_n hq 1 (S' := (29, [some (.ref 116), some (.int l1), some (.int l2), some (.int l3), some (.int l4), some (.int l5), none, none, none], [.int (nI 0), .int l5, .ref 134], D, E)) rfl ?_
      refine gv_is hq rfl rfl h 30 rfl (fun h => ?_)
      refine gv_n hq 2 (S' := (3, [some (.ref 116), some (.int l1), some (.int l2), some (.int l3), some (.int l4), some (.int (l5 + (nI 1))), none, none, none], [], (sD D 134 (l5).toNatClampNeg (nI 0)), E)) rfl ?_
      exact gv_w (K3 _ _ _ _ _ _ _ h) (And.intro rfl (And.intro rfl (And.intro rfl (And.intro rfl (And.intro rfl (And.intro rfl trivial))))))
def g_M_seenBy_3 (F : Nat) (E : mx_E) : Nat → Int32 → Int32 → Int32 → Int32 → Int32 → mx_D → Option (Int32 × mx_D) := it (fun k3 => b_M_seenBy_3 F E k3) (fun _ _ _ _ _ _ => none)
set_option maxRecDepth 100000 in
set_option maxHeartbeats 4000000 in
theorem t_M_seenBy_3 (X : ev_X) (F : Nat) (d : Nat) (hd : 3 ≤ d + 1) (E : mx_E)  : ∀ (n : Nat) (l1 : Int32) (l2 : Int32) (l3 : Int32) (l4 : Int32) (l5 : Int32) (D : mx_D) (v : Int32 × mx_D), g_M_seenBy_3 F E n l1 l2 l3 l4 l5 D = some v → ev X (d + 1) 315 (3, [some (.ref 116), some (.int l1), some (.int l2), some (.int l3), some (.int l4), some (.int l5), none, none, none], [], D, E) (qR (some (.int v.1)) v.2 E) := by
  intro n
  induction n with
  | zero => intro l1 l2 l3 l4 l5 D v h; cases h
  | succ n ih => intro l1 l2 l3 l4 l5 D v h; exact tb_M_seenBy_3 X F d hd E (g_M_seenBy_3 F E n) ih l1 l2 l3 l4 l5 D v h
def g_M_seenBy (F : Nat) (E : mx_E) (a1 : Int32) (a2 : Int32) (a3 : Int32) (a4 : Int32) (D : mx_D) : Option (Int32 × mx_D) := (g_M_seenBy_3 F E F a1 a2 a3 a4 (nI 0) D)
set_option maxRecDepth 100000 in
set_option maxHeartbeats 4000000 in
theorem t_M_seenBy (X : ev_X) (F : Nat) (d : Nat) (hd : 3 ≤ d + 1) (E : mx_E) (a1 : Int32) (a2 : Int32) (a3 : Int32) (a4 : Int32) (D : mx_D) (v : Int32 × mx_D) (h : g_M_seenBy F E a1 a2 a3 a4 D = some v) : ev X (d + 1) 315 (0, [some (.ref 116), some (.int a1), some (.int a2), some (.int a3), some (.int a4), none, none, none, none], [], D, E) (qR (some (.int v.1)) v.2 E) := by
  have hq : kq_m 315 = some kq_q315 := rfl
  unfold g_M_seenBy at h
  refine gv_n hq 2 (S' := (3, [some (.ref 116), some (.int a1), some (.int a2), some (.int a3), some (.int a4), some (.int (nI 0)), none, none, none], [], D, E)) rfl ?_
  exact gv_w (t_M_seenBy_3 X F d hd E F _ _ _ _ _ _ _ h) (And.intro rfl (And.intro rfl (And.intro rfl (And.intro rfl (And.intro rfl (And.intro rfl trivial))))))
def g_M_seen (F : Nat) (E : mx_E) (a1 : Int32) (a2 : Int32) (D : mx_D) : Option (Int32 × mx_D) := (Option.bind (g_M_asksSeen F D E a1 a2) (fun r1 => (if 0 ≤ r1 then (Option.bind (g_M_seenBy F E a1 a2 (-1 : Int32) (nI 0) D) (fun r2 => (some (r2.1, r2.2)))) else (some (r1, D)))))
set_option maxRecDepth 100000 in
set_option maxHeartbeats 4000000 in
theorem t_M_seen (X : ev_X) (F : Nat) (d : Nat) (hd : 4 ≤ d + 1) (E : mx_E) (a1 : Int32) (a2 : Int32) (D : mx_D) (v : Int32 × mx_D) (h : g_M_seen F E a1 a2 D = some v) : ev X (d + 1) 311 (0, [some (.ref 116), some (.int a1), some (.int a2), none], [], D, E) (qR (some (.int v.1)) v.2 E) := by
  have hq : kq_m 311 = some kq_q311 := rfl
  unfold g_M_seen at h
  refine gv_n hq 3 (S' := (3, [some (.ref 116), some (.int a1), some (.int a2), none], [.int a2, .int a1, .ref 116], D, E)) rfl ?_
  obtain ⟨r1, h1, h⟩ := Option.bind_eq_some_iff.mp h
  refine gv_d hq rfl rfl rfl rfl rfl (gv_dd (by omega) (t_M_asksSeen X F (d - 1) (by omega) D E _ _ _ h1)) (S' := (6, [some (.ref 116), some (.int a1), some (.int a2), none], [.int r1], D, E)) rfl ?_
  refine gv_n hq 2 (S' := (8, [some (.ref 116), some (.int a1), some (.int a2), some (.int r1)], [.int r1], D, E)) rfl ?_
  refine gv_b hq rfl h 15 11 rfl rfl rfl (fun h => ?_) (fun h => ?_)
  · refine gv_n hq 5 (S' := (20, [some (.ref 116), some (.int a1), some (.int a2), some (.int r1)], [.int (nI 0), .int (-1 : Int32), .int a2, .int a1, .ref 116], D, E)) rfl ?_
    obtain ⟨r2, h1, h⟩ := Option.bind_eq_some_iff.mp h
    refine gv_d hq rfl rfl rfl rfl rfl (gv_dd (by omega) (t_M_seenBy X F (d - 1) (by omega) E _ _ _ _ _ _ h1)) (S' := (23, [some (.ref 116), some (.int a1), some (.int a2), some (.int r1)], [.int r2.1], r2.2, E)) rfl ?_
    cases h
    exact ev_ret hq rfl rfl ⟨rfl, rfl, rfl⟩
  · refine gv_n hq 2 (S' := (23, [some (.ref 116), some (.int a1), some (.int a2), some (.int r1)], [.int r1], D, E)) rfl ?_
    cases h
    exact ev_ret hq rfl rfl ⟨rfl, rfl, rfl⟩
def b_Sightings_surelyAt_37 (F : Nat) (k37 : Int32 → Int32 → Int32 → Int32 → mx_D → Option (Int32 × mx_D)) (l1 : Int32) (l2 : Int32) (l3 : Int32) (l4 : Int32) (D : mx_D) : Option (Int32 × mx_D) := (if (D 57 1) ≤ l4 then (some (l3, D)) else (rk 8 l1 (rk 8 l1 (if ((sD D 58 (l1).toNatClampNeg (l2 &&& ((nI 1) <<< (l4 &&& 31)))) 58 (l1).toNatClampNeg) = 0 then (k37 l1 l2 l3 (l4 + (nI 1)) (sD D 58 (l1).toNatClampNeg (l2 &&& ((nI 1) <<< (l4 &&& 31))))) else (Option.bind (g_Sightings_countWays F (sD D 58 (l1).toNatClampNeg (l2 &&& ((nI 1) <<< (l4 &&& 31))))) (fun r1 => (if r1.1 ≤ 0 then (k37 l1 l2 l3 (l4 + (nI 1)) r1.2) else (if l3 = (-1 : Int32) then (k37 l1 l2 l4 (l4 + (nI 1)) r1.2) else (some ((-1 : Int32), r1.2))))))))))
set_option maxRecDepth 100000 in
set_option maxHeartbeats 4000000 in
theorem tb_Sightings_surelyAt_37 (X : ev_X) (F : Nat) (d : Nat) (hd : 2 ≤ d + 1) (E : mx_E) (k37 : Int32 → Int32 → Int32 → Int32 → mx_D → Option (Int32 × mx_D)) (K37 : ∀ (l1 : Int32) (l2 : Int32) (l3 : Int32) (l4 : Int32) (D : mx_D) (v : Int32 × mx_D), k37 l1 l2 l3 l4 D = some v → ev X (d + 1) 99 (37, [some (.ref 57), some (.int l1), some (.int l2), some (.int l3), some (.int l4)], [], D, E) (qR (some (.int v.1)) v.2 E)) (l1 : Int32) (l2 : Int32) (l3 : Int32) (l4 : Int32) (D : mx_D) (v : Int32 × mx_D) (h : b_Sightings_surelyAt_37 F k37 l1 l2 l3 l4 D = some v) : ev X (d + 1) 99 (37, [some (.ref 57), some (.int l1), some (.int l2), some (.int l3), some (.int l4)], [], D, E) (qR (some (.int v.1)) v.2 E) := by
  have hq : kq_m 99 = some kq_q99 := rfl
  unfold b_Sightings_surelyAt_37 at h
  refine gv_n hq 3 (S' := (43, [some (.ref 57), some (.int l1), some (.int l2), some (.int l3), some (.int l4)], [.int (D 57 1), .int l4], D, E)) rfl ?_
  refine gv_b hq rfl h 90 46 rfl rfl rfl (fun h => ?_) (fun h => ?_)
  · refine gv_n hq 1 (S' := (91, [some (.ref 57), some (.int l1), some (.int l2), some (.int l3), some (.int l4)], [.int l3], D, E)) rfl ?_
    cases h
    exact ev_ret hq rfl rfl ⟨rfl, rfl, rfl⟩
  · refine gv_n hq 8 (S' := (57, [some (.ref 57), some (.int l1), some (.int l2), some (.int l3), some (.int l4)], [.int (l2 &&& ((nI 1) <<< (l4 &&& 31))), .int l1, .ref 58], D, E)) rfl ?_
    refine gv_is hq rfl rfl h 58 rfl (fun h => ?_)
    refine gv_n hq 3 (S' := (63, [some (.ref 57), some (.int l1), some (.int l2), some (.int l3), some (.int l4)], [.int l1, .ref 58], (sD D 58 (l1).toNatClampNeg (l2 &&& ((nI 1) <<< (l4 &&& 31)))), E)) rfl ?_
    refine gv_ia hq rfl rfl rfl h 64 rfl (fun h => ?_)
    refine gv_b hq rfl h 84 67 rfl rfl rfl (fun h => ?_) (fun h => ?_)
    · refine gv_n hq 2 (S' := (37, [some (.ref 57), some (.int l1), some (.int l2), some (.int l3), some (.int (l4 + (nI 1)))], [], (sD D 58 (l1).toNatClampNeg (l2 &&& ((nI 1) <<< (l4 &&& 31)))), E)) rfl ?_
      exact gv_w (K37 _ _ _ _ _ _ h) (And.intro rfl (And.intro rfl (And.intro rfl (And.intro rfl (And.intro rfl trivial)))))
    · refine gv_n hq 1 (S' := (68, [some (.ref 57), some (.int l1), some (.int l2), some (.int l3), some (.int l4)], [.ref 57], (sD D 58 (l1).toNatClampNeg (l2 &&& ((nI 1) <<< (l4 &&& 31)))), E)) rfl ?_
      obtain ⟨r1, h1, h⟩ := Option.bind_eq_some_iff.mp h
      refine gv_d hq rfl rfl rfl rfl rfl (gv_dd (by omega) (t_Sightings_countWays X F (d - 1) (by omega) E _ _ h1)) (S' := (71, [some (.ref 57), some (.int l1), some (.int l2), some (.int l3), some (.int l4)], [.int r1.1], r1.2, E)) rfl ?_
      refine gv_b hq rfl h 84 74 rfl rfl rfl (fun h => ?_) (fun h => ?_)
      · refine gv_n hq 2 (S' := (37, [some (.ref 57), some (.int l1), some (.int l2), some (.int l3), some (.int (l4 + (nI 1)))], [], r1.2, E)) rfl ?_
        exact gv_w (K37 _ _ _ _ _ _ h) (And.intro rfl (And.intro rfl (And.intro rfl (And.intro rfl (And.intro rfl trivial)))))
      · refine gv_n hq 2 (S' := (76, [some (.ref 57), some (.int l1), some (.int l2), some (.int l3), some (.int l4)], [.int (-1 : Int32), .int l3], r1.2, E)) rfl ?_
        refine gv_b hq rfl h 81 79 rfl rfl rfl (fun h => ?_) (fun h => ?_)
        · refine gv_n hq 4 (S' := (37, [some (.ref 57), some (.int l1), some (.int l2), some (.int l4), some (.int (l4 + (nI 1)))], [], r1.2, E)) rfl ?_
          exact gv_w (K37 _ _ _ _ _ _ h) (And.intro rfl (And.intro rfl (And.intro rfl (And.intro rfl (And.intro rfl trivial)))))
        · refine gv_n hq 1 (S' := (80, [some (.ref 57), some (.int l1), some (.int l2), some (.int l3), some (.int l4)], [.int (-1 : Int32)], r1.2, E)) rfl ?_
          cases h
          exact ev_ret hq rfl rfl ⟨rfl, rfl, rfl⟩
def g_Sightings_surelyAt_37 (F : Nat) : Nat → Int32 → Int32 → Int32 → Int32 → mx_D → Option (Int32 × mx_D) := it (fun k37 => b_Sightings_surelyAt_37 F k37) (fun _ _ _ _ _ => none)
set_option maxRecDepth 100000 in
set_option maxHeartbeats 4000000 in
theorem t_Sightings_surelyAt_37 (X : ev_X) (F : Nat) (d : Nat) (hd : 2 ≤ d + 1) (E : mx_E)  : ∀ (n : Nat) (l1 : Int32) (l2 : Int32) (l3 : Int32) (l4 : Int32) (D : mx_D) (v : Int32 × mx_D), g_Sightings_surelyAt_37 F n l1 l2 l3 l4 D = some v → ev X (d + 1) 99 (37, [some (.ref 57), some (.int l1), some (.int l2), some (.int l3), some (.int l4)], [], D, E) (qR (some (.int v.1)) v.2 E) := by
  intro n
  induction n with
  | zero => intro l1 l2 l3 l4 D v h; cases h
  | succ n ih => intro l1 l2 l3 l4 D v h; exact tb_Sightings_surelyAt_37 X F d hd E (g_Sightings_surelyAt_37 F n) ih l1 l2 l3 l4 D v h
def g_Sightings_surelyAt (F : Nat) (a1 : Int32) (D : mx_D) : Option (Int32 × mx_D) := (if a1 < 0 then (some ((-1 : Int32), D)) else (if (D 57 0) ≤ a1 then (some ((-1 : Int32), D)) else (if (D 57 0) ≤ (D 57 1) then (rk 8 a1 (g_Sightings_surelyAt_37 F F a1 (D 58 (a1).toNatClampNeg) (-1 : Int32) (nI 0) D)) else (some ((-1 : Int32), D)))))
set_option maxRecDepth 100000 in
set_option maxHeartbeats 4000000 in
theorem t_Sightings_surelyAt (X : ev_X) (F : Nat) (d : Nat) (hd : 2 ≤ d + 1) (E : mx_E) (a1 : Int32) (D : mx_D) (v : Int32 × mx_D) (h : g_Sightings_surelyAt F a1 D = some v) : ev X (d + 1) 99 (0, [some (.ref 57), some (.int a1), none, none, none], [], D, E) (qR (some (.int v.1)) v.2 E) := by
  have hq : kq_m 99 = some kq_q99 := rfl
  unfold g_Sightings_surelyAt at h
  refine gv_n hq 1 (S' := (1, [some (.ref 57), some (.int a1), none, none, none], [.int a1], D, E)) rfl ?_
  refine gv_b hq rfl h 23 4 rfl rfl rfl (fun h => ?_) (fun h => ?_)
  · refine gv_n hq 1 (S' := (24, [some (.ref 57), some (.int a1), none, none, none], [.int (-1 : Int32)], D, E)) rfl ?_
    cases h
    exact ev_ret hq rfl rfl ⟨rfl, rfl, rfl⟩
  · refine gv_n hq 3 (S' := (9, [some (.ref 57), some (.int a1), none, none, none], [.int (D 57 0), .int a1], D, E)) rfl ?_
    refine gv_b hq rfl h 23 12 rfl rfl rfl (fun h => ?_) (fun h => ?_)
    · refine gv_n hq 1 (S' := (24, [some (.ref 57), some (.int a1), none, none, none], [.int (-1 : Int32)], D, E)) rfl ?_
      cases h
      exact ev_ret hq rfl rfl ⟨rfl, rfl, rfl⟩
    · refine gv_n hq 4 (S' := (20, [some (.ref 57), some (.int a1), none, none, none], [.int (D 57 1), .int (D 57 0)], D, E)) rfl ?_
      refine gv_b hq rfl h 25 23 rfl rfl rfl (fun h => ?_) (fun h => ?_)
      · refine gv_n hq 3 (S' := (30, [some (.ref 57), some (.int a1), none, none, none], [.int a1, .ref 58], D, E)) rfl ?_
        refine gv_ia hq rfl rfl rfl h 31 rfl (fun h => ?_)
        refine gv_n hq 5 (S' := (37, [some (.ref 57), some (.int a1), some (.int (D 58 (a1).toNatClampNeg)), some (.int (-1 : Int32)), some (.int (nI 0))], [], D, E)) rfl ?_
        exact gv_w (t_Sightings_surelyAt_37 X F d hd E F _ _ _ _ _ _ h) (And.intro rfl (And.intro rfl (And.intro rfl (And.intro rfl (And.intro rfl trivial)))))
      · refine gv_n hq 1 (S' := (24, [some (.ref 57), some (.int a1), none, none, none], [.int (-1 : Int32)], D, E)) rfl ?_
        cases h
        exact ev_ret hq rfl rfl ⟨rfl, rfl, rfl⟩
def g_X_sure (F : Nat) (E : mx_E) (a1 : Int32) (a2 : Int32) (a3 : Int32) (D : mx_D) : Option (Int32 × mx_D) := (Option.bind (g_X_lookAt F E a1 a2 D) (fun r1 => (if r1.1 = 0 then (Option.bind (g_Sightings_surelyAt F a3 r1.2) (fun r2 => (some (r2.1, r2.2)))) else (some (r1.1, r1.2)))))
set_option maxRecDepth 100000 in
set_option maxHeartbeats 4000000 in
theorem t_X_sure (X : ev_X) (F : Nat) (d : Nat) (hd : 6 ≤ d + 1) (E : mx_E) (a1 : Int32) (a2 : Int32) (a3 : Int32) (D : mx_D) (v : Int32 × mx_D) (h : g_X_sure F E a1 a2 a3 D = some v) : ev X (d + 1) 169 (0, [some (.ref 0), some (.int a1), some (.int a2), some (.int a3), none], [], D, E) (qR (some (.int v.1)) v.2 E) := by
  have hq : kq_m 169 = some kq_q169 := rfl
  unfold g_X_sure at h
  refine gv_n hq 3 (S' := (3, [some (.ref 0), some (.int a1), some (.int a2), some (.int a3), none], [.int a2, .int a1, .ref 0], D, E)) rfl ?_
  obtain ⟨r1, h1, h⟩ := Option.bind_eq_some_iff.mp h
  refine gv_d hq rfl rfl rfl rfl rfl (gv_dd (by omega) (t_X_lookAt X F (d - 1) (by omega) E _ _ _ _ h1)) (S' := (6, [some (.ref 0), some (.int a1), some (.int a2), some (.int a3), none], [.int r1.1], r1.2, E)) rfl ?_
  refine gv_n hq 2 (S' := (10, [some (.ref 0), some (.int a1), some (.int a2), some (.int a3), some (.int r1.1)], [.int r1.1], r1.2, E)) rfl ?_
  refine gv_b hq rfl h 18 13 rfl rfl rfl (fun h => ?_) (fun h => ?_)
  · refine gv_n hq 3 (S' := (23, [some (.ref 0), some (.int a1), some (.int a2), some (.int a3), some (.int r1.1)], [.int a3, .ref 57], r1.2, E)) rfl ?_
    obtain ⟨r2, h1, h⟩ := Option.bind_eq_some_iff.mp h
    refine gv_d hq rfl rfl rfl rfl rfl (gv_dd (by omega) (t_Sightings_surelyAt X F (d - 1) (by omega) E _ _ _ h1)) (S' := (26, [some (.ref 0), some (.int a1), some (.int a2), some (.int a3), some (.int r1.1)], [.int r2.1], r2.2, E)) rfl ?_
    cases h
    exact ev_ret hq rfl rfl ⟨rfl, rfl, rfl⟩
  · refine gv_n hq 2 (S' := (26, [some (.ref 0), some (.int a1), some (.int a2), some (.int a3), some (.int r1.1)], [.int r1.1], r1.2, E)) rfl ?_
    cases h
    exact ev_ret hq rfl rfl ⟨rfl, rfl, rfl⟩
def b_M_sure_57 (F : Nat) (E : mx_E) (k57 : Int32 → Int32 → Int32 → Int32 → Int32 → mx_D → Option (Int32 × mx_D)) (l1 : Int32) (l2 : Int32) (l3 : Int32) (l5 : Int32) (l6 : Int32) (D : mx_D) : Option (Int32 × mx_D) := (if (D 117 4) ≤ l6 then (some ((-1 : Int32), D)) else (Option.bind (g_M_seenBy F E l1 l2 l3 l6 D) (fun r3 => (if r3.1 = l5 then (some (l6, r3.2)) else (k57 l1 l2 l3 l5 (l6 + (nI 1)) r3.2)))))
set_option maxRecDepth 100000 in
set_option maxHeartbeats 4000000 in
theorem tb_M_sure_57 (X : ev_X) (F : Nat) (d : Nat) (hd : 4 ≤ d + 1) (E : mx_E) (k57 : Int32 → Int32 → Int32 → Int32 → Int32 → mx_D → Option (Int32 × mx_D)) (K57 : ∀ (l1 : Int32) (l2 : Int32) (l3 : Int32) (l5 : Int32) (l6 : Int32) (D : mx_D) (v : Int32 × mx_D), k57 l1 l2 l3 l5 l6 D = some v → ev X (d + 1) 316 (57, [some (.ref 116), some (.int l1), some (.int l2), some (.int l3), none, some (.int l5), some (.int l6)], [], D, E) (qR (some (.int v.1)) v.2 E)) (l1 : Int32) (l2 : Int32) (l3 : Int32) (l5 : Int32) (l6 : Int32) (D : mx_D) (v : Int32 × mx_D) (h : b_M_sure_57 F E k57 l1 l2 l3 l5 l6 D = some v) : ev X (d + 1) 316 (57, [some (.ref 116), some (.int l1), some (.int l2), some (.int l3), none, some (.int l5), some (.int l6)], [], D, E) (qR (some (.int v.1)) v.2 E) := by
  have hq : kq_m 316 = some kq_q316 := rfl
  unfold b_M_sure_57 at h
  refine gv_n hq 5 (S' := (65, [some (.ref 116), some (.int l1), some (.int l2), some (.int l3), none, some (.int l5), some (.int l6)], [.int (D 117 4), .int l6], D, E)) rfl ?_
  refine gv_b hq rfl h 91 68 rfl rfl rfl (fun h => ?_) (fun h => ?_)
  · refine gv_n hq 1 (S' := (92, [some (.ref 116), some (.int l1), some (.int l2), some (.int l3), none, some (.int l5), some (.int l6)], [.int (-1 : Int32)], D, E)) rfl ?_
    cases h
    exact ev_ret hq rfl rfl ⟨rfl, rfl, rfl⟩
  · refine gv_n hq 5 (S' := (74, [some (.ref 116), some (.int l1), some (.int l2), some (.int l3), none, some (.int l5), some (.int l6)], [.int l6, .int l3, .int l2, .int l1, .ref 116], D, E)) rfl ?_
    obtain ⟨r3, h1, h⟩ := Option.bind_eq_some_iff.mp h
    refine gv_d hq rfl rfl rfl rfl rfl (gv_dd (by omega) (t_M_seenBy X F (d - 1) (by omega) E _ _ _ _ _ _ h1)) (S' := (77, [some (.ref 116), some (.int l1), some (.int l2), some (.int l3), none, some (.int l5), some (.int l6)], [.int r3.1], r3.2, E)) rfl ?_
    refine gv_n hq 1 (S' := (79, [some (.ref 116), some (.int l1), some (.int l2), some (.int l3), none, some (.int l5), some (.int l6)], [.int l5, .int r3.1], r3.2, E)) rfl ?_
    refine gv_b hq rfl h 82 85 rfl rfl rfl (fun h => ?_) (fun h => ?_)
    · refine gv_n hq 1 (S' := (84, [some (.ref 116), some (.int l1), some (.int l2), some (.int l3), none, some (.int l5), some (.int l6)], [.int l6], r3.2, E)) rfl ?_
      cases h
      exact ev_ret hq rfl rfl ⟨rfl, rfl, rfl⟩
    · refine gv_n hq 2 (S' := (57, [some (.ref 116), some (.int l1), some (.int l2), some (.int l3), none, some (.int l5), some (.int (l6 + (nI 1)))], [], r3.2, E)) rfl ?_
      exact gv_w (K57 _ _ _ _ _ _ _ h) (And.intro rfl (And.intro rfl (And.intro rfl (And.intro rfl (And.intro rfl (And.intro rfl trivial))))))
def g_M_sure_57 (F : Nat) (E : mx_E) : Nat → Int32 → Int32 → Int32 → Int32 → Int32 → mx_D → Option (Int32 × mx_D) := it (fun k57 => b_M_sure_57 F E k57) (fun _ _ _ _ _ _ => none)
set_option maxRecDepth 100000 in
set_option maxHeartbeats 4000000 in
theorem t_M_sure_57 (X : ev_X) (F : Nat) (d : Nat) (hd : 4 ≤ d + 1) (E : mx_E)  : ∀ (n : Nat) (l1 : Int32) (l2 : Int32) (l3 : Int32) (l5 : Int32) (l6 : Int32) (D : mx_D) (v : Int32 × mx_D), g_M_sure_57 F E n l1 l2 l3 l5 l6 D = some v → ev X (d + 1) 316 (57, [some (.ref 116), some (.int l1), some (.int l2), some (.int l3), none, some (.int l5), some (.int l6)], [], D, E) (qR (some (.int v.1)) v.2 E) := by
  intro n
  induction n with
  | zero => intro l1 l2 l3 l5 l6 D v h; cases h
  | succ n ih => intro l1 l2 l3 l5 l6 D v h; exact tb_M_sure_57 X F d hd E (g_M_sure_57 F E n) ih l1 l2 l3 l5 l6 D v h
def g_M_sure (F : Nat) (E : mx_E) (a1 : Int32) (a2 : Int32) (a3 : Int32) (D : mx_D) : Option (Int32 × mx_D) := (Option.bind (g_M_asksSeen F D E a1 a2) (fun r1 => (if 0 ≤ r1 then (Option.bind (g_M_seenBy F E a1 a2 (-1 : Int32) (nI 0) D) (fun r2 => (if r2.1 = 0 then (some ((-1 : Int32), r2.2)) else (if a3 < 0 then (some ((-1 : Int32), r2.2)) else (rk 4 a1 (if (lg_cmp ((3 : Int64) * ((a3).toInt64)) (((r2.2 137 (a1).toNatClampNeg)).toInt64)) < 0 then (g_M_sure_57 F E F a1 a2 a3 r2.1 (nI 0) r2.2) else (some ((-1 : Int32), r2.2)))))))) else (some (r1, D)))))
set_option maxRecDepth 100000 in
set_option maxHeartbeats 4000000 in
theorem t_M_sure (X : ev_X) (F : Nat) (d : Nat) (hd : 4 ≤ d + 1) (E : mx_E) (a1 : Int32) (a2 : Int32) (a3 : Int32) (D : mx_D) (v : Int32 × mx_D) (h : g_M_sure F E a1 a2 a3 D = some v) : ev X (d + 1) 316 (0, [some (.ref 116), some (.int a1), some (.int a2), some (.int a3), none, none, none], [], D, E) (qR (some (.int v.1)) v.2 E) := by
  have hq : kq_m 316 = some kq_q316 := rfl
  unfold g_M_sure at h
  refine gv_n hq 3 (S' := (3, [some (.ref 116), some (.int a1), some (.int a2), some (.int a3), none, none, none], [.int a2, .int a1, .ref 116], D, E)) rfl ?_
  obtain ⟨r1, h1, h⟩ := Option.bind_eq_some_iff.mp h
  refine gv_d hq rfl rfl rfl rfl rfl (gv_dd (by omega) (t_M_asksSeen X F (d - 1) (by omega) D E _ _ _ h1)) (S' := (6, [some (.ref 116), some (.int a1), some (.int a2), some (.int a3), none, none, none], [.int r1], D, E)) rfl ?_
  refine gv_n hq 2 (S' := (10, [some (.ref 116), some (.int a1), some (.int a2), some (.int a3), some (.int r1), none, none], [.int r1], D, E)) rfl ?_
  refine gv_b hq rfl h 16 13 rfl rfl rfl (fun h => ?_) (fun h => ?_)
  · refine gv_n hq 5 (S' := (21, [some (.ref 116), some (.int a1), some (.int a2), some (.int a3), some (.int r1), none, none], [.int (nI 0), .int (-1 : Int32), .int a2, .int a1, .ref 116], D, E)) rfl ?_
    obtain ⟨r2, h1, h⟩ := Option.bind_eq_some_iff.mp h
    refine gv_d hq rfl rfl rfl rfl rfl (gv_dd (by omega) (t_M_seenBy X F (d - 1) (by omega) E _ _ _ _ _ _ h1)) (S' := (24, [some (.ref 116), some (.int a1), some (.int a2), some (.int a3), some (.int r1), none, none], [.int r2.1], r2.2, E)) rfl ?_
    refine gv_n hq 2 (S' := (28, [some (.ref 116), some (.int a1), some (.int a2), some (.int a3), some (.int r1), some (.int r2.1), none], [.int r2.1], r2.2, E)) rfl ?_
    refine gv_b hq rfl h 52 31 rfl rfl rfl (fun h => ?_) (fun h => ?_)
    · refine gv_n hq 1 (S' := (53, [some (.ref 116), some (.int a1), some (.int a2), some (.int a3), some (.int r1), some (.int r2.1), none], [.int (-1 : Int32)], r2.2, E)) rfl ?_
      cases h
      exact ev_ret hq rfl rfl ⟨rfl, rfl, rfl⟩
    · refine gv_n hq 1 (S' := (32, [some (.ref 116), some (.int a1), some (.int a2), some (.int a3), some (.int r1), some (.int r2.1), none], [.int a3], r2.2, E)) rfl ?_
      refine gv_b hq rfl h 52 35 rfl rfl rfl (fun h => ?_) (fun h => ?_)
      · refine gv_n hq 1 (S' := (53, [some (.ref 116), some (.int a1), some (.int a2), some (.int a3), some (.int r1), some (.int r2.1), none], [.int (-1 : Int32)], r2.2, E)) rfl ?_
        cases h
        exact ev_ret hq rfl rfl ⟨rfl, rfl, rfl⟩
      · refine gv_n hq 7 (S' := (46, [some (.ref 116), some (.int a1), some (.int a2), some (.int a3), some (.int r1), some (.int r2.1), none], [.int a1, .ref 137, .long ((3 : Int64) * ((a3).toInt64))], r2.2, E)) rfl ?_
        refine gv_ia hq rfl rfl rfl h 47 rfl (fun h => ?_)
        refine gv_n hq 2 (S' := (49, [some (.ref 116), some (.int a1), some (.int a2), some (.int a3), some (.int r1), some (.int r2.1), none], [.int (lg_cmp ((3 : Int64) * ((a3).toInt64)) (((r2.2 137 (a1).toNatClampNeg)).toInt64))], r2.2, E)) rfl ?_
        refine gv_b hq rfl h 54 52 rfl rfl rfl (fun h => ?_) (fun h => ?_)
        · refine gv_n hq 2 (S' := (57, [some (.ref 116), some (.int a1), some (.int a2), some (.int a3), some (.int r1), some (.int r2.1), some (.int (nI 0))], [], r2.2, E)) rfl ?_
          exact gv_w (t_M_sure_57 X F d hd E F _ _ _ _ _ _ _ h) (And.intro rfl (And.intro rfl (And.intro rfl (And.intro rfl (And.intro rfl (And.intro rfl trivial))))))
        · refine gv_n hq 1 (S' := (53, [some (.ref 116), some (.int a1), some (.int a2), some (.int a3), some (.int r1), some (.int r2.1), none], [.int (-1 : Int32)], r2.2, E)) rfl ?_
          cases h
          exact ev_ret hq rfl rfl ⟨rfl, rfl, rfl⟩
  · refine gv_n hq 1 (S' := (15, [some (.ref 116), some (.int a1), some (.int a2), some (.int a3), some (.int r1), none, none], [.int r1], D, E)) rfl ?_
    cases h
    exact ev_ret hq rfl rfl ⟨rfl, rfl, rfl⟩
def b_Sightings_firstOdd_108_3 (F : Nat) (D : mx_D) (E : mx_E) (k3 : Int32 → Int32 → Option (Int32)) (l3 : Int32) (l4 : Int32) : Option (Int32) := (if (D 57 0) ≤ l4 then (some (-1 : Int32)) else (Option.bind (g_Sightings_pewOf_108 E l4) (fun r1 => (Option.bind (g_Sightings_placeOf_108 E l4) (fun r2 => (Option.bind (g_Church_sitterAt F D r1 r2) (fun r3 => (if r3 = (-1 : Int32) then (some l4) else (Option.bind (g_Church_highOf F D r3 l3) (fun r4 => (rk 60 (((nI 3) * l4) + (nI 2)) (if (lg_cmp ((r4).toInt64) (E 109 ((((nI 3) * l4) + (nI 2))).toNatClampNeg)) = 0 then (k3 l3 (l4 + (nI 1))) else (some l4)))))))))))))
set_option maxRecDepth 100000 in
set_option maxHeartbeats 4000000 in
theorem tb_Sightings_firstOdd_108_3 (X : ev_X) (F : Nat) (d : Nat) (hd : 4 ≤ d + 1) (D : mx_D) (E : mx_E) (k3 : Int32 → Int32 → Option (Int32)) (K3 : ∀ (l3 : Int32) (l4 : Int32) (v : Int32), k3 l3 l4 = some v → ev X (d + 1) 100 (3, [some (.ref 57), some (.ref 108), some (.ref 19), some (.int l3), some (.int l4), none], [], D, E) (qR (some (.int v)) D E)) (l3 : Int32) (l4 : Int32) (v : Int32) (h : b_Sightings_firstOdd_108_3 F D E k3 l3 l4 = some v) : ev X (d + 1) 100 (3, [some (.ref 57), some (.ref 108), some (.ref 19), some (.int l3), some (.int l4), none], [], D, E) (qR (some (.int v)) D E) := by
  have hq : kq_m 100 = some kq_q100 := rfl
  unfold b_Sightings_firstOdd_108_3 at h
  refine gv_n hq 3 (S' := (9, [some (.ref 57), some (.ref 108), some (.ref 19), some (.int l3), some (.int l4), none], [.int (D 57 0), .int l4], D, E)) rfl ?_
  refine gv_b hq rfl h 68 12 rfl rfl rfl (fun h => ?_) (fun h => ?_)
  · refine gv_n hq 1 (S' := (69, [some (.ref 57), some (.ref 108), some (.ref 19), some (.int l3), some (.int l4), none], [.int (-1 : Int32)], D, E)) rfl ?_
    cases h
    exact ev_ret hq rfl rfl ⟨rfl, rfl, rfl⟩
  · refine gv_n hq 3 (S' := (16, [some (.ref 57), some (.ref 108), some (.ref 19), some (.int l3), some (.int l4), none], [.int l4, .ref 108, .ref 19], D, E)) rfl ?_
    obtain ⟨r1, h1, h⟩ := Option.bind_eq_some_iff.mp h
    refine gv_d hq rfl rfl rfl rfl rfl ((t_Sightings_pewOf_108 X d D E _ _ h1)) (S' := (19, [some (.ref 57), some (.ref 108), some (.ref 19), some (.int l3), some (.int l4), none], [.int r1, .ref 19], D, E)) rfl ?_
    refine gv_n hq 2 (S' := (22, [some (.ref 57), some (.ref 108), some (.ref 19), some (.int l3), some (.int l4), none], [.int l4, .ref 108, .int r1, .ref 19], D, E)) rfl ?_
    obtain ⟨r2, h1, h⟩ := Option.bind_eq_some_iff.mp h
    refine gv_d hq rfl rfl rfl rfl rfl ((t_Sightings_placeOf_108 X d D E _ _ h1)) (S' := (25, [some (.ref 57), some (.ref 108), some (.ref 19), some (.int l3), some (.int l4), none], [.int r2, .int r1, .ref 19], D, E)) rfl ?_
    obtain ⟨r3, h1, h⟩ := Option.bind_eq_some_iff.mp h
    refine gv_d hq rfl rfl rfl rfl rfl (gv_dd (by omega) (t_Church_sitterAt X F (d - 1) (by omega) D E _ _ _ h1)) (S' := (28, [some (.ref 57), some (.ref 108), some (.ref 19), some (.int l3), some (.int l4), none], [.int r3], D, E)) rfl ?_
    refine gv_n hq 3 (S' := (33, [some (.ref 57), some (.ref 108), some (.ref 19), some (.int l3), some (.int l4), some (.int r3)], [.int (-1 : Int32), .int r3], D, E)) rfl ?_
    refine gv_b hq rfl h 59 36 rfl rfl rfl (fun h => ?_) (fun h => ?_)
    · refine gv_n hq 1 (S' := (61, [some (.ref 57), some (.ref 108), some (.ref 19), some (.int l3), some (.int l4), some (.int r3)], [.int l4], D, E)) rfl ?_
      cases h
      exact ev_ret hq rfl rfl ⟨rfl, rfl, rfl⟩
    · refine gv_n hq 3 (S' := (40, [some (.ref 57), some (.ref 108), some (.ref 19), some (.int l3), some (.int l4), some (.int r3)], [.int l3, .int r3, .ref 19], D, E)) rfl ?_
      obtain ⟨r4, h1, h⟩ := Option.bind_eq_some_iff.mp h
      refine gv_d hq rfl rfl rfl rfl rfl (gv_dd (by omega) (t_Church_highOf X F (d - 1) (by omega) D E _ _ _ h1)) (S' := (43, [some (.ref 57), some (.ref 108), some (.ref 19), some (.int l3), some (.int l4), some (.int r3)], [.int r4], D, E)) rfl ?_
      refine gv_n hq 8 (S' := (54, [some (.ref 57), some (.ref 108), some (.ref 19), some (.int l3), some (.int l4), some (.int r3)], [.int (((nI 3) * l4) + (nI 2)), .ref 109, .long ((r4).toInt64)], D, E)) rfl ?_
      refine gv_la hq rfl rfl h 55 rfl (fun h => ?_)
      refine gv_n hq 1 (S' := (56, [some (.ref 57), some (.ref 108), some (.ref 19), some (.int l3), some (.int l4), some (.int r3)], [.int (lg_cmp ((r4).toInt64) (E 109 ((((nI 3) * l4) + (nI 2))).toNatClampNeg))], D, E)) rfl ?_
      refine gv_b hq rfl h 62 59 rfl rfl rfl (fun h => ?_) (fun h => ?_)
      · refine gv_n hq 2 (S' := (3, [some (.ref 57), some (.ref 108), some (.ref 19), some (.int l3), some (.int (l4 + (nI 1))), some (.int r3)], [], D, E)) rfl ?_
        exact gv_w (K3 _ _ _ h) (And.intro rfl (And.intro rfl (And.intro rfl (And.intro rfl (And.intro rfl trivial)))))
      · refine gv_n hq 1 (S' := (61, [some (.ref 57), some (.ref 108), some (.ref 19), some (.int l3), some (.int l4), some (.int r3)], [.int l4], D, E)) rfl ?_
        cases h
        exact ev_ret hq rfl rfl ⟨rfl, rfl, rfl⟩
def g_Sightings_firstOdd_108_3 (F : Nat) (D : mx_D) (E : mx_E) : Nat → Int32 → Int32 → Option (Int32) := it (fun k3 => b_Sightings_firstOdd_108_3 F D E k3) (fun _ _ => none)
set_option maxRecDepth 100000 in
set_option maxHeartbeats 4000000 in
theorem t_Sightings_firstOdd_108_3 (X : ev_X) (F : Nat) (d : Nat) (hd : 4 ≤ d + 1) (D : mx_D) (E : mx_E)  : ∀ (n : Nat) (l3 : Int32) (l4 : Int32) (v : Int32), g_Sightings_firstOdd_108_3 F D E n l3 l4 = some v → ev X (d + 1) 100 (3, [some (.ref 57), some (.ref 108), some (.ref 19), some (.int l3), some (.int l4), none], [], D, E) (qR (some (.int v)) D E) := by
  intro n
  induction n with
  | zero => intro l3 l4 v h; cases h
  | succ n ih => intro l3 l4 v h; exact tb_Sightings_firstOdd_108_3 X F d hd D E (g_Sightings_firstOdd_108_3 F D E n) ih l3 l4 v h
def g_Sightings_firstOdd_108 (F : Nat) (D : mx_D) (E : mx_E) (a3 : Int32) : Option (Int32) := (g_Sightings_firstOdd_108_3 F D E F a3 (nI 0))
set_option maxRecDepth 100000 in
set_option maxHeartbeats 4000000 in
theorem t_Sightings_firstOdd_108 (X : ev_X) (F : Nat) (d : Nat) (hd : 4 ≤ d + 1) (D : mx_D) (E : mx_E) (a3 : Int32) (v : Int32) (h : g_Sightings_firstOdd_108 F D E a3 = some v) : ev X (d + 1) 100 (0, [some (.ref 57), some (.ref 108), some (.ref 19), some (.int a3), none, none], [], D, E) (qR (some (.int v)) D E) := by
  have hq : kq_m 100 = some kq_q100 := rfl
  unfold g_Sightings_firstOdd_108 at h
  refine gv_n hq 2 (S' := (3, [some (.ref 57), some (.ref 108), some (.ref 19), some (.int a3), some (.int (nI 0)), none], [], D, E)) rfl ?_
  exact gv_w (t_Sightings_firstOdd_108_3 X F d hd D E F _ _ _ h) (And.intro rfl (And.intro rfl (And.intro rfl (And.intro rfl (And.intro rfl trivial)))))
def b_Sightings_firstOdd_110_3 (F : Nat) (D : mx_D) (E : mx_E) (k3 : Int32 → Int32 → Option (Int32)) (l3 : Int32) (l4 : Int32) : Option (Int32) := (if (D 57 0) ≤ l4 then (some (-1 : Int32)) else (Option.bind (g_Sightings_pewOf_110 E l4) (fun r1 => (Option.bind (g_Sightings_placeOf_110 E l4) (fun r2 => (Option.bind (g_Church_sitterAt F D r1 r2) (fun r3 => (if r3 = (-1 : Int32) then (some l4) else (Option.bind (g_Church_highOf F D r3 l3) (fun r4 => (rk 60 (((nI 3) * l4) + (nI 2)) (if (lg_cmp ((r4).toInt64) (E 111 ((((nI 3) * l4) + (nI 2))).toNatClampNeg)) = 0 then (k3 l3 (l4 + (nI 1))) else (some l4)))))))))))))
set_option maxRecDepth 100000 in
set_option maxHeartbeats 4000000 in
theorem tb_Sightings_firstOdd_110_3 (X : ev_X) (F : Nat) (d : Nat) (hd : 4 ≤ d + 1) (D : mx_D) (E : mx_E) (k3 : Int32 → Int32 → Option (Int32)) (K3 : ∀ (l3 : Int32) (l4 : Int32) (v : Int32), k3 l3 l4 = some v → ev X (d + 1) 100 (3, [some (.ref 57), some (.ref 110), some (.ref 19), some (.int l3), some (.int l4), none], [], D, E) (qR (some (.int v)) D E)) (l3 : Int32) (l4 : Int32) (v : Int32) (h : b_Sightings_firstOdd_110_3 F D E k3 l3 l4 = some v) : ev X (d + 1) 100 (3, [some (.ref 57), some (.ref 110), some (.ref 19), some (.int l3), some (.int l4), none], [], D, E) (qR (some (.int v)) D E) := by
  have hq : kq_m 100 = some kq_q100 := rfl
  unfold b_Sightings_firstOdd_110_3 at h
  refine gv_n hq 3 (S' := (9, [some (.ref 57), some (.ref 110), some (.ref 19), some (.int l3), some (.int l4), none], [.int (D 57 0), .int l4], D, E)) rfl ?_
  refine gv_b hq rfl h 68 12 rfl rfl rfl (fun h => ?_) (fun h => ?_)
  · refine gv_n hq 1 (S' := (69, [some (.ref 57), some (.ref 110), some (.ref 19), some (.int l3), some (.int l4), none], [.int (-1 : Int32)], D, E)) rfl ?_
    cases h
    exact ev_ret hq rfl rfl ⟨rfl, rfl, rfl⟩
  · refine gv_n hq 3 (S' := (16, [some (.ref 57), some (.ref 110), some (.ref 19), some (.int l3), some (.int l4), none], [.int l4, .ref 110, .ref 19], D, E)) rfl ?_
    obtain ⟨r1, h1, h⟩ := Option.bind_eq_some_iff.mp h
    refine gv_d hq rfl rfl rfl rfl rfl ((t_Sightings_pewOf_110 X d D E _ _ h1)) (S' := (19, [some (.ref 57), some (.ref 110), some (.ref 19), some (.int l3), some (.int l4), none], [.int r1, .ref 19], D, E)) rfl ?_
    refine gv_n hq 2 (S' := (22, [some (.ref 57), some (.ref 110), some (.ref 19), some (.int l3), some (.int l4), none], [.int l4, .ref 110, .int r1, .ref 19], D, E)) rfl ?_
    obtain ⟨r2, h1, h⟩ := Option.bind_eq_some_iff.mp h
    refine gv_d hq rfl rfl rfl rfl rfl ((t_Sightings_placeOf_110 X d D E _ _ h1)) (S' := (25, [some (.ref 57), some (.ref 110), some (.ref 19), some (.int l3), some (.int l4), none], [.int r2, .int r1, .ref 19], D, E)) rfl ?_
    obtain ⟨r3, h1, h⟩ := Option.bind_eq_some_iff.mp h
    refine gv_d hq rfl rfl rfl rfl rfl (gv_dd (by omega) (t_Church_sitterAt X F (d - 1) (by omega) D E _ _ _ h1)) (S' := (28, [some (.ref 57), some (.ref 110), some (.ref 19), some (.int l3), some (.int l4), none], [.int r3], D, E)) rfl ?_
    refine gv_n hq 3 (S' := (33, [some (.ref 57), some (.ref 110), some (.ref 19), some (.int l3), some (.int l4), some (.int r3)], [.int (-1 : Int32), .int r3], D, E)) rfl ?_
    refine gv_b hq rfl h 59 36 rfl rfl rfl (fun h => ?_) (fun h => ?_)
    · refine gv_n hq 1 (S' := (61, [some (.ref 57), some (.ref 110), some (.ref 19), some (.int l3), some (.int l4), some (.int r3)], [.int l4], D, E)) rfl ?_
      cases h
      exact ev_ret hq rfl rfl ⟨rfl, rfl, rfl⟩
    · refine gv_n hq 3 (S' := (40, [some (.ref 57), some (.ref 110), some (.ref 19), some (.int l3), some (.int l4), some (.int r3)], [.int l3, .int r3, .ref 19], D, E)) rfl ?_
      obtain ⟨r4, h1, h⟩ := Option.bind_eq_some_iff.mp h
      refine gv_d hq rfl rfl rfl rfl rfl (gv_dd (by omega) (t_Church_highOf X F (d - 1) (by omega) D E _ _ _ h1)) (S' := (43, [some (.ref 57), some (.ref 110), some (.ref 19), some (.int l3), some (.int l4), some (.int r3)], [.int r4], D, E)) rfl ?_
      refine gv_n hq 8 (S' := (54, [some (.ref 57), some (.ref 110), some (.ref 19), some (.int l3), some (.int l4), some (.int r3)], [.int (((nI 3) * l4) + (nI 2)), .ref 111, .long ((r4).toInt64)], D, E)) rfl ?_
      refine gv_la hq rfl rfl h 55 rfl (fun h => ?_)
      refine gv_n hq 1 (S' := (56, [some (.ref 57), some (.ref 110), some (.ref 19), some (.int l3), some (.int l4), some (.int r3)], [.int (lg_cmp ((r4).toInt64) (E 111 ((((nI 3) * l4) + (nI 2))).toNatClampNeg))], D, E)) rfl ?_
      refine gv_b hq rfl h 62 59 rfl rfl rfl (fun h => ?_) (fun h => ?_)
      · refine gv_n hq 2 (S' := (3, [some (.ref 57), some (.ref 110), some (.ref 19), some (.int l3), some (.int (l4 + (nI 1))), some (.int r3)], [], D, E)) rfl ?_
        exact gv_w (K3 _ _ _ h) (And.intro rfl (And.intro rfl (And.intro rfl (And.intro rfl (And.intro rfl trivial)))))
      · refine gv_n hq 1 (S' := (61, [some (.ref 57), some (.ref 110), some (.ref 19), some (.int l3), some (.int l4), some (.int r3)], [.int l4], D, E)) rfl ?_
        cases h
        exact ev_ret hq rfl rfl ⟨rfl, rfl, rfl⟩
def g_Sightings_firstOdd_110_3 (F : Nat) (D : mx_D) (E : mx_E) : Nat → Int32 → Int32 → Option (Int32) := it (fun k3 => b_Sightings_firstOdd_110_3 F D E k3) (fun _ _ => none)
set_option maxRecDepth 100000 in
set_option maxHeartbeats 4000000 in
theorem t_Sightings_firstOdd_110_3 (X : ev_X) (F : Nat) (d : Nat) (hd : 4 ≤ d + 1) (D : mx_D) (E : mx_E)  : ∀ (n : Nat) (l3 : Int32) (l4 : Int32) (v : Int32), g_Sightings_firstOdd_110_3 F D E n l3 l4 = some v → ev X (d + 1) 100 (3, [some (.ref 57), some (.ref 110), some (.ref 19), some (.int l3), some (.int l4), none], [], D, E) (qR (some (.int v)) D E) := by
  intro n
  induction n with
  | zero => intro l3 l4 v h; cases h
  | succ n ih => intro l3 l4 v h; exact tb_Sightings_firstOdd_110_3 X F d hd D E (g_Sightings_firstOdd_110_3 F D E n) ih l3 l4 v h
def g_Sightings_firstOdd_110 (F : Nat) (D : mx_D) (E : mx_E) (a3 : Int32) : Option (Int32) := (g_Sightings_firstOdd_110_3 F D E F a3 (nI 0))
set_option maxRecDepth 100000 in
set_option maxHeartbeats 4000000 in
theorem t_Sightings_firstOdd_110 (X : ev_X) (F : Nat) (d : Nat) (hd : 4 ≤ d + 1) (D : mx_D) (E : mx_E) (a3 : Int32) (v : Int32) (h : g_Sightings_firstOdd_110 F D E a3 = some v) : ev X (d + 1) 100 (0, [some (.ref 57), some (.ref 110), some (.ref 19), some (.int a3), none, none], [], D, E) (qR (some (.int v)) D E) := by
  have hq : kq_m 100 = some kq_q100 := rfl
  unfold g_Sightings_firstOdd_110 at h
  refine gv_n hq 2 (S' := (3, [some (.ref 57), some (.ref 110), some (.ref 19), some (.int a3), some (.int (nI 0)), none], [], D, E)) rfl ?_
  exact gv_w (t_Sightings_firstOdd_110_3 X F d hd D E F _ _ _ h) (And.intro rfl (And.intro rfl (And.intro rfl (And.intro rfl (And.intro rfl trivial)))))
def b_Sightings_firstOdd_112_3 (F : Nat) (D : mx_D) (E : mx_E) (k3 : Int32 → Int32 → Option (Int32)) (l3 : Int32) (l4 : Int32) : Option (Int32) := (if (D 57 0) ≤ l4 then (some (-1 : Int32)) else (Option.bind (g_Sightings_pewOf_112 E l4) (fun r1 => (Option.bind (g_Sightings_placeOf_112 E l4) (fun r2 => (Option.bind (g_Church_sitterAt F D r1 r2) (fun r3 => (if r3 = (-1 : Int32) then (some l4) else (Option.bind (g_Church_highOf F D r3 l3) (fun r4 => (rk 60 (((nI 3) * l4) + (nI 2)) (if (lg_cmp ((r4).toInt64) (E 113 ((((nI 3) * l4) + (nI 2))).toNatClampNeg)) = 0 then (k3 l3 (l4 + (nI 1))) else (some l4)))))))))))))
set_option maxRecDepth 100000 in
set_option maxHeartbeats 4000000 in
theorem tb_Sightings_firstOdd_112_3 (X : ev_X) (F : Nat) (d : Nat) (hd : 4 ≤ d + 1) (D : mx_D) (E : mx_E) (k3 : Int32 → Int32 → Option (Int32)) (K3 : ∀ (l3 : Int32) (l4 : Int32) (v : Int32), k3 l3 l4 = some v → ev X (d + 1) 100 (3, [some (.ref 57), some (.ref 112), some (.ref 19), some (.int l3), some (.int l4), none], [], D, E) (qR (some (.int v)) D E)) (l3 : Int32) (l4 : Int32) (v : Int32) (h : b_Sightings_firstOdd_112_3 F D E k3 l3 l4 = some v) : ev X (d + 1) 100 (3, [some (.ref 57), some (.ref 112), some (.ref 19), some (.int l3), some (.int l4), none], [], D, E) (qR (some (.int v)) D E) := by
  have hq : kq_m 100 = some kq_q100 := rfl
  unfold b_Sightings_firstOdd_112_3 at h
  refine gv_n hq 3 (S' := (9, [some (.ref 57), some (.ref 112), some (.ref 19), some (.int l3), some (.int l4), none], [.int (D 57 0), .int l4], D, E)) rfl ?_
  refine gv_b hq rfl h 68 12 rfl rfl rfl (fun h => ?_) (fun h => ?_)
  · refine gv_n hq 1 (S' := (69, [some (.ref 57), some (.ref 112), some (.ref 19), some (.int l3), some (.int l4), none], [.int (-1 : Int32)], D, E)) rfl ?_
    cases h
    exact ev_ret hq rfl rfl ⟨rfl, rfl, rfl⟩
  · refine gv_n hq 3 (S' := (16, [some (.ref 57), some (.ref 112), some (.ref 19), some (.int l3), some (.int l4), none], [.int l4, .ref 112, .ref 19], D, E)) rfl ?_
    obtain ⟨r1, h1, h⟩ := Option.bind_eq_some_iff.mp h
    refine gv_d hq rfl rfl rfl rfl rfl ((t_Sightings_pewOf_112 X d D E _ _ h1)) (S' := (19, [some (.ref 57), some (.ref 112), some (.ref 19), some (.int l3), some (.int l4), none], [.int r1, .ref 19], D, E)) rfl ?_
    refine gv_n hq 2 (S' := (22, [some (.ref 57), some (.ref 112), some (.ref 19), some (.int l3), some (.int l4), none], [.int l4, .ref 112, .int r1, .ref 19], D, E)) rfl ?_
    obtain ⟨r2, h1, h⟩ := Option.bind_eq_some_iff.mp h
    refine gv_d hq rfl rfl rfl rfl rfl ((t_Sightings_placeOf_112 X d D E _ _ h1)) (S' := (25, [some (.ref 57), some (.ref 112), some (.ref 19), some (.int l3), some (.int l4), none], [.int r2, .int r1, .ref 19], D, E)) rfl ?_
    obtain ⟨r3, h1, h⟩ := Option.bind_eq_some_iff.mp h
    refine gv_d hq rfl rfl rfl rfl rfl (gv_dd (by omega) (t_Church_sitterAt X F (d - 1) (by omega) D E _ _ _ h1)) (S' := (28, [some (.ref 57), some (.ref 112), some (.ref 19), some (.int l3), some (.int l4), none], [.int r3], D, E)) rfl ?_
    refine gv_n hq 3 (S' := (33, [some (.ref 57), some (.ref 112), some (.ref 19), some (.int l3), some (.int l4), some (.int r3)], [.int (-1 : Int32), .int r3], D, E)) rfl ?_
    refine gv_b hq rfl h 59 36 rfl rfl rfl (fun h => ?_) (fun h => ?_)
    · refine gv_n hq 1 (S' := (61, [some (.ref 57), some (.ref 112), some (.ref 19), some (.int l3), some (.int l4), some (.int r3)], [.int l4], D, E)) rfl ?_
      cases h
      exact ev_ret hq rfl rfl ⟨rfl, rfl, rfl⟩
    · refine gv_n hq 3 (S' := (40, [some (.ref 57), some (.ref 112), some (.ref 19), some (.int l3), some (.int l4), some (.int r3)], [.int l3, .int r3, .ref 19], D, E)) rfl ?_
      obtain ⟨r4, h1, h⟩ := Option.bind_eq_some_iff.mp h
      refine gv_d hq rfl rfl rfl rfl rfl (gv_dd (by omega) (t_Church_highOf X F (d - 1) (by omega) D E _ _ _ h1)) (S' := (43, [some (.ref 57), some (.ref 112), some (.ref 19), some (.int l3), some (.int l4), some (.int r3)], [.int r4], D, E)) rfl ?_
      refine gv_n hq 8 (S' := (54, [some (.ref 57), some (.ref 112), some (.ref 19), some (.int l3), some (.int l4), some (.int r3)], [.int (((nI 3) * l4) + (nI 2)), .ref 113, .long ((r4).toInt64)], D, E)) rfl ?_
      refine gv_la hq rfl rfl h 55 rfl (fun h => ?_)
      refine gv_n hq 1 (S' := (56, [some (.ref 57), some (.ref 112), some (.ref 19), some (.int l3), some (.int l4), some (.int r3)], [.int (lg_cmp ((r4).toInt64) (E 113 ((((nI 3) * l4) + (nI 2))).toNatClampNeg))], D, E)) rfl ?_
      refine gv_b hq rfl h 62 59 rfl rfl rfl (fun h => ?_) (fun h => ?_)
      · refine gv_n hq 2 (S' := (3, [some (.ref 57), some (.ref 112), some (.ref 19), some (.int l3), some (.int (l4 + (nI 1))), some (.int r3)], [], D, E)) rfl ?_
        exact gv_w (K3 _ _ _ h) (And.intro rfl (And.intro rfl (And.intro rfl (And.intro rfl (And.intro rfl trivial)))))
      · refine gv_n hq 1 (S' := (61, [some (.ref 57), some (.ref 112), some (.ref 19), some (.int l3), some (.int l4), some (.int r3)], [.int l4], D, E)) rfl ?_
        cases h
        exact ev_ret hq rfl rfl ⟨rfl, rfl, rfl⟩
def g_Sightings_firstOdd_112_3 (F : Nat) (D : mx_D) (E : mx_E) : Nat → Int32 → Int32 → Option (Int32) := it (fun k3 => b_Sightings_firstOdd_112_3 F D E k3) (fun _ _ => none)
set_option maxRecDepth 100000 in
set_option maxHeartbeats 4000000 in
theorem t_Sightings_firstOdd_112_3 (X : ev_X) (F : Nat) (d : Nat) (hd : 4 ≤ d + 1) (D : mx_D) (E : mx_E)  : ∀ (n : Nat) (l3 : Int32) (l4 : Int32) (v : Int32), g_Sightings_firstOdd_112_3 F D E n l3 l4 = some v → ev X (d + 1) 100 (3, [some (.ref 57), some (.ref 112), some (.ref 19), some (.int l3), some (.int l4), none], [], D, E) (qR (some (.int v)) D E) := by
  intro n
  induction n with
  | zero => intro l3 l4 v h; cases h
  | succ n ih => intro l3 l4 v h; exact tb_Sightings_firstOdd_112_3 X F d hd D E (g_Sightings_firstOdd_112_3 F D E n) ih l3 l4 v h
def g_Sightings_firstOdd_112 (F : Nat) (D : mx_D) (E : mx_E) (a3 : Int32) : Option (Int32) := (g_Sightings_firstOdd_112_3 F D E F a3 (nI 0))
set_option maxRecDepth 100000 in
set_option maxHeartbeats 4000000 in
theorem t_Sightings_firstOdd_112 (X : ev_X) (F : Nat) (d : Nat) (hd : 4 ≤ d + 1) (D : mx_D) (E : mx_E) (a3 : Int32) (v : Int32) (h : g_Sightings_firstOdd_112 F D E a3 = some v) : ev X (d + 1) 100 (0, [some (.ref 57), some (.ref 112), some (.ref 19), some (.int a3), none, none], [], D, E) (qR (some (.int v)) D E) := by
  have hq : kq_m 100 = some kq_q100 := rfl
  unfold g_Sightings_firstOdd_112 at h
  refine gv_n hq 2 (S' := (3, [some (.ref 57), some (.ref 112), some (.ref 19), some (.int a3), some (.int (nI 0)), none], [], D, E)) rfl ?_
  exact gv_w (t_Sightings_firstOdd_112_3 X F d hd D E F _ _ _ h) (And.intro rfl (And.intro rfl (And.intro rfl (And.intro rfl (And.intro rfl trivial)))))
def b_Sightings_firstOdd_114_3 (F : Nat) (D : mx_D) (E : mx_E) (k3 : Int32 → Int32 → Option (Int32)) (l3 : Int32) (l4 : Int32) : Option (Int32) := (if (D 57 0) ≤ l4 then (some (-1 : Int32)) else (Option.bind (g_Sightings_pewOf_114 E l4) (fun r1 => (Option.bind (g_Sightings_placeOf_114 E l4) (fun r2 => (Option.bind (g_Church_sitterAt F D r1 r2) (fun r3 => (if r3 = (-1 : Int32) then (some l4) else (Option.bind (g_Church_highOf F D r3 l3) (fun r4 => (rk 60 (((nI 3) * l4) + (nI 2)) (if (lg_cmp ((r4).toInt64) (E 115 ((((nI 3) * l4) + (nI 2))).toNatClampNeg)) = 0 then (k3 l3 (l4 + (nI 1))) else (some l4)))))))))))))
set_option maxRecDepth 100000 in
set_option maxHeartbeats 4000000 in
theorem tb_Sightings_firstOdd_114_3 (X : ev_X) (F : Nat) (d : Nat) (hd : 4 ≤ d + 1) (D : mx_D) (E : mx_E) (k3 : Int32 → Int32 → Option (Int32)) (K3 : ∀ (l3 : Int32) (l4 : Int32) (v : Int32), k3 l3 l4 = some v → ev X (d + 1) 100 (3, [some (.ref 57), some (.ref 114), some (.ref 19), some (.int l3), some (.int l4), none], [], D, E) (qR (some (.int v)) D E)) (l3 : Int32) (l4 : Int32) (v : Int32) (h : b_Sightings_firstOdd_114_3 F D E k3 l3 l4 = some v) : ev X (d + 1) 100 (3, [some (.ref 57), some (.ref 114), some (.ref 19), some (.int l3), some (.int l4), none], [], D, E) (qR (some (.int v)) D E) := by
  have hq : kq_m 100 = some kq_q100 := rfl
  unfold b_Sightings_firstOdd_114_3 at h
  refine gv_n hq 3 (S' := (9, [some (.ref 57), some (.ref 114), some (.ref 19), some (.int l3), some (.int l4), none], [.int (D 57 0), .int l4], D, E)) rfl ?_
  refine gv_b hq rfl h 68 12 rfl rfl rfl (fun h => ?_) (fun h => ?_)
  · refine gv_n hq 1 (S' := (69, [some (.ref 57), some (.ref 114), some (.ref 19), some (.int l3), some (.int l4), none], [.int (-1 : Int32)], D, E)) rfl ?_
    cases h
    exact ev_ret hq rfl rfl ⟨rfl, rfl, rfl⟩
  · refine gv_n hq 3 (S' := (16, [some (.ref 57), some (.ref 114), some (.ref 19), some (.int l3), some (.int l4), none], [.int l4, .ref 114, .ref 19], D, E)) rfl ?_
    obtain ⟨r1, h1, h⟩ := Option.bind_eq_some_iff.mp h
    refine gv_d hq rfl rfl rfl rfl rfl ((t_Sightings_pewOf_114 X d D E _ _ h1)) (S' := (19, [some (.ref 57), some (.ref 114), some (.ref 19), some (.int l3), some (.int l4), none], [.int r1, .ref 19], D, E)) rfl ?_
    refine gv_n hq 2 (S' := (22, [some (.ref 57), some (.ref 114), some (.ref 19), some (.int l3), some (.int l4), none], [.int l4, .ref 114, .int r1, .ref 19], D, E)) rfl ?_
    obtain ⟨r2, h1, h⟩ := Option.bind_eq_some_iff.mp h
    refine gv_d hq rfl rfl rfl rfl rfl ((t_Sightings_placeOf_114 X d D E _ _ h1)) (S' := (25, [some (.ref 57), some (.ref 114), some (.ref 19), some (.int l3), some (.int l4), none], [.int r2, .int r1, .ref 19], D, E)) rfl ?_
    obtain ⟨r3, h1, h⟩ := Option.bind_eq_some_iff.mp h
    refine gv_d hq rfl rfl rfl rfl rfl (gv_dd (by omega) (t_Church_sitterAt X F (d - 1) (by omega) D E _ _ _ h1)) (S' := (28, [some (.ref 57), some (.ref 114), some (.ref 19), some (.int l3), some (.int l4), none], [.int r3], D, E)) rfl ?_
    refine gv_n hq 3 (S' := (33, [some (.ref 57), some (.ref 114), some (.ref 19), some (.int l3), some (.int l4), some (.int r3)], [.int (-1 : Int32), .int r3], D, E)) rfl ?_
    refine gv_b hq rfl h 59 36 rfl rfl rfl (fun h => ?_) (fun h => ?_)
    · refine gv_n hq 1 (S' := (61, [some (.ref 57), some (.ref 114), some (.ref 19), some (.int l3), some (.int l4), some (.int r3)], [.int l4], D, E)) rfl ?_
      cases h
      exact ev_ret hq rfl rfl ⟨rfl, rfl, rfl⟩
    · refine gv_n hq 3 (S' := (40, [some (.ref 57), some (.ref 114), some (.ref 19), some (.int l3), some (.int l4), some (.int r3)], [.int l3, .int r3, .ref 19], D, E)) rfl ?_
      obtain ⟨r4, h1, h⟩ := Option.bind_eq_some_iff.mp h
      refine gv_d hq rfl rfl rfl rfl rfl (gv_dd (by omega) (t_Church_highOf X F (d - 1) (by omega) D E _ _ _ h1)) (S' := (43, [some (.ref 57), some (.ref 114), some (.ref 19), some (.int l3), some (.int l4), some (.int r3)], [.int r4], D, E)) rfl ?_
      refine gv_n hq 8 (S' := (54, [some (.ref 57), some (.ref 114), some (.ref 19), some (.int l3), some (.int l4), some (.int r3)], [.int (((nI 3) * l4) + (nI 2)), .ref 115, .long ((r4).toInt64)], D, E)) rfl ?_
      refine gv_la hq rfl rfl h 55 rfl (fun h => ?_)
      refine gv_n hq 1 (S' := (56, [some (.ref 57), some (.ref 114), some (.ref 19), some (.int l3), some (.int l4), some (.int r3)], [.int (lg_cmp ((r4).toInt64) (E 115 ((((nI 3) * l4) + (nI 2))).toNatClampNeg))], D, E)) rfl ?_
      refine gv_b hq rfl h 62 59 rfl rfl rfl (fun h => ?_) (fun h => ?_)
      · refine gv_n hq 2 (S' := (3, [some (.ref 57), some (.ref 114), some (.ref 19), some (.int l3), some (.int (l4 + (nI 1))), some (.int r3)], [], D, E)) rfl ?_
        exact gv_w (K3 _ _ _ h) (And.intro rfl (And.intro rfl (And.intro rfl (And.intro rfl (And.intro rfl trivial)))))
      · refine gv_n hq 1 (S' := (61, [some (.ref 57), some (.ref 114), some (.ref 19), some (.int l3), some (.int l4), some (.int r3)], [.int l4], D, E)) rfl ?_
        cases h
        exact ev_ret hq rfl rfl ⟨rfl, rfl, rfl⟩
def g_Sightings_firstOdd_114_3 (F : Nat) (D : mx_D) (E : mx_E) : Nat → Int32 → Int32 → Option (Int32) := it (fun k3 => b_Sightings_firstOdd_114_3 F D E k3) (fun _ _ => none)
set_option maxRecDepth 100000 in
set_option maxHeartbeats 4000000 in
theorem t_Sightings_firstOdd_114_3 (X : ev_X) (F : Nat) (d : Nat) (hd : 4 ≤ d + 1) (D : mx_D) (E : mx_E)  : ∀ (n : Nat) (l3 : Int32) (l4 : Int32) (v : Int32), g_Sightings_firstOdd_114_3 F D E n l3 l4 = some v → ev X (d + 1) 100 (3, [some (.ref 57), some (.ref 114), some (.ref 19), some (.int l3), some (.int l4), none], [], D, E) (qR (some (.int v)) D E) := by
  intro n
  induction n with
  | zero => intro l3 l4 v h; cases h
  | succ n ih => intro l3 l4 v h; exact tb_Sightings_firstOdd_114_3 X F d hd D E (g_Sightings_firstOdd_114_3 F D E n) ih l3 l4 v h
def g_Sightings_firstOdd_114 (F : Nat) (D : mx_D) (E : mx_E) (a3 : Int32) : Option (Int32) := (g_Sightings_firstOdd_114_3 F D E F a3 (nI 0))
set_option maxRecDepth 100000 in
set_option maxHeartbeats 4000000 in
theorem t_Sightings_firstOdd_114 (X : ev_X) (F : Nat) (d : Nat) (hd : 4 ≤ d + 1) (D : mx_D) (E : mx_E) (a3 : Int32) (v : Int32) (h : g_Sightings_firstOdd_114 F D E a3 = some v) : ev X (d + 1) 100 (0, [some (.ref 57), some (.ref 114), some (.ref 19), some (.int a3), none, none], [], D, E) (qR (some (.int v)) D E) := by
  have hq : kq_m 100 = some kq_q100 := rfl
  unfold g_Sightings_firstOdd_114 at h
  refine gv_n hq 2 (S' := (3, [some (.ref 57), some (.ref 114), some (.ref 19), some (.int a3), some (.int (nI 0)), none], [], D, E)) rfl ?_
  exact gv_w (t_Sightings_firstOdd_114_3 X F d hd D E F _ _ _ h) (And.intro rfl (And.intro rfl (And.intro rfl (And.intro rfl (And.intro rfl trivial)))))
def g_X_odd (F : Nat) (E : mx_E) (a1 : Int32) (a2 : Int32) (D : mx_D) : Option (Int32 × mx_D) := (Option.bind (g_X_lookAt F E a1 a2 D) (fun r1 => (if r1.1 = 0 then (if a1 = (nI 0) then (Option.bind (g_Sightings_firstOdd_108 F r1.2 E a2) (fun r2 => (some (r2, r1.2)))) else (if a1 = (nI 1) then (Option.bind (g_Sightings_firstOdd_110 F r1.2 E a2) (fun r3 => (some (r3, r1.2)))) else (if a1 = (nI 2) then (Option.bind (g_Sightings_firstOdd_112 F r1.2 E a2) (fun r4 => (some (r4, r1.2)))) else (if a1 = (nI 3) then (Option.bind (g_Sightings_firstOdd_114 F r1.2 E a2) (fun r5 => (some (r5, r1.2)))) else none)))) else (some (r1.1, r1.2)))))
set_option maxRecDepth 100000 in
set_option maxHeartbeats 4000000 in
theorem t_X_odd (X : ev_X) (F : Nat) (d : Nat) (hd : 6 ≤ d + 1) (E : mx_E) (a1 : Int32) (a2 : Int32) (D : mx_D) (v : Int32 × mx_D) (h : g_X_odd F E a1 a2 D = some v) : ev X (d + 1) 170 (0, [some (.ref 0), some (.int a1), some (.int a2), none], [], D, E) (qR (some (.int v.1)) v.2 E) := by
  have hq : kq_m 170 = some kq_q170 := rfl
  unfold g_X_odd at h
  refine gv_n hq 3 (S' := (3, [some (.ref 0), some (.int a1), some (.int a2), none], [.int a2, .int a1, .ref 0], D, E)) rfl ?_
  obtain ⟨r1, h1, h⟩ := Option.bind_eq_some_iff.mp h
  refine gv_d hq rfl rfl rfl rfl rfl (gv_dd (by omega) (t_X_lookAt X F (d - 1) (by omega) E _ _ _ _ h1)) (S' := (6, [some (.ref 0), some (.int a1), some (.int a2), none], [.int r1.1], r1.2, E)) rfl ?_
  refine gv_n hq 2 (S' := (8, [some (.ref 0), some (.int a1), some (.int a2), some (.int r1.1)], [.int r1.1], r1.2, E)) rfl ?_
  refine gv_b hq rfl h 15 11 rfl rfl rfl (fun h => ?_) (fun h => ?_)
  · refine gv_n hq 5 (S' := (24, [some (.ref 0), some (.int a1), some (.int a2), some (.int r1.1)], [.int a1, .ref 62, .ref 57], r1.2, E)) rfl ?_
    refine gv_if h (fun c0 h => ?_) (fun c0 h => ?_)
    · refine ev_ins hq rfl (S' := (25, [some (.ref 0), some (.int a1), some (.int a2), some (.int r1.1)], [.ref 108, .ref 57], r1.2, E)) (gv_sw (fun z => ((24, [some (.ref 0), some (.int a1), some (.int a2), some (.int r1.1)], .int z :: [.ref 62, .ref 57], r1.2, E) : mx_S)) c0 rfl) ?_
      refine gv_n hq 3 (S' := (30, [some (.ref 0), some (.int a1), some (.int a2), some (.int r1.1)], [.int a2, .ref 19, .ref 108, .ref 57], r1.2, E)) rfl ?_
      obtain ⟨r2, h1, h⟩ := Option.bind_eq_some_iff.mp h
      refine gv_d hq rfl rfl rfl rfl rfl (gv_dd (by omega) (t_Sightings_firstOdd_108 X F (d - 1) (by omega) r1.2 E _ _ h1)) (S' := (33, [some (.ref 0), some (.int a1), some (.int a2), some (.int r1.1)], [.int r2], r1.2, E)) rfl ?_
      cases h
      exact ev_ret hq rfl rfl ⟨rfl, rfl, rfl⟩
    · refine gv_if h (fun c1 h => ?_) (fun c1 h => ?_)
      · refine ev_ins hq rfl (S' := (25, [some (.ref 0), some (.int a1), some (.int a2), some (.int r1.1)], [.ref 110, .ref 57], r1.2, E)) (gv_sw (fun z => ((24, [some (.ref 0), some (.int a1), some (.int a2), some (.int r1.1)], .int z :: [.ref 62, .ref 57], r1.2, E) : mx_S)) c1 rfl) ?_
        refine gv_n hq 3 (S' := (30, [some (.ref 0), some (.int a1), some (.int a2), some (.int r1.1)], [.int a2, .ref 19, .ref 110, .ref 57], r1.2, E)) rfl ?_
        obtain ⟨r3, h1, h⟩ := Option.bind_eq_some_iff.mp h
        refine gv_d hq rfl rfl rfl rfl rfl (gv_dd (by omega) (t_Sightings_firstOdd_110 X F (d - 1) (by omega) r1.2 E _ _ h1)) (S' := (33, [some (.ref 0), some (.int a1), some (.int a2), some (.int r1.1)], [.int r3], r1.2, E)) rfl ?_
        cases h
        exact ev_ret hq rfl rfl ⟨rfl, rfl, rfl⟩
      · refine gv_if h (fun c2 h => ?_) (fun c2 h => ?_)
        · refine ev_ins hq rfl (S' := (25, [some (.ref 0), some (.int a1), some (.int a2), some (.int r1.1)], [.ref 112, .ref 57], r1.2, E)) (gv_sw (fun z => ((24, [some (.ref 0), some (.int a1), some (.int a2), some (.int r1.1)], .int z :: [.ref 62, .ref 57], r1.2, E) : mx_S)) c2 rfl) ?_
          refine gv_n hq 3 (S' := (30, [some (.ref 0), some (.int a1), some (.int a2), some (.int r1.1)], [.int a2, .ref 19, .ref 112, .ref 57], r1.2, E)) rfl ?_
          obtain ⟨r4, h1, h⟩ := Option.bind_eq_some_iff.mp h
          refine gv_d hq rfl rfl rfl rfl rfl (gv_dd (by omega) (t_Sightings_firstOdd_112 X F (d - 1) (by omega) r1.2 E _ _ h1)) (S' := (33, [some (.ref 0), some (.int a1), some (.int a2), some (.int r1.1)], [.int r4], r1.2, E)) rfl ?_
          cases h
          exact ev_ret hq rfl rfl ⟨rfl, rfl, rfl⟩
        · refine gv_if h (fun c3 h => ?_) (fun c3 h => ?_)
          · refine ev_ins hq rfl (S' := (25, [some (.ref 0), some (.int a1), some (.int a2), some (.int r1.1)], [.ref 114, .ref 57], r1.2, E)) (gv_sw (fun z => ((24, [some (.ref 0), some (.int a1), some (.int a2), some (.int r1.1)], .int z :: [.ref 62, .ref 57], r1.2, E) : mx_S)) c3 rfl) ?_
            refine gv_n hq 3 (S' := (30, [some (.ref 0), some (.int a1), some (.int a2), some (.int r1.1)], [.int a2, .ref 19, .ref 114, .ref 57], r1.2, E)) rfl ?_
            obtain ⟨r5, h1, h⟩ := Option.bind_eq_some_iff.mp h
            refine gv_d hq rfl rfl rfl rfl rfl (gv_dd (by omega) (t_Sightings_firstOdd_114 X F (d - 1) (by omega) r1.2 E _ _ h1)) (S' := (33, [some (.ref 0), some (.int a1), some (.int a2), some (.int r1.1)], [.int r5], r1.2, E)) rfl ?_
            cases h
            exact ev_ret hq rfl rfl ⟨rfl, rfl, rfl⟩
          · cases h
  · refine gv_n hq 2 (S' := (33, [some (.ref 0), some (.int a1), some (.int a2), some (.int r1.1)], [.int r1.1], r1.2, E)) rfl ?_
    cases h
    exact ev_ret hq rfl rfl ⟨rfl, rfl, rfl⟩
def b_M_odd_16 (F : Nat) (D : mx_D) (E : mx_E) (k16 : Int32 → Int32 → Int32 → Option (Int32)) (l1 : Int32) (l2 : Int32) (l4 : Int32) : Option (Int32) := (rk 4 l1 (if (D 137 (l1).toNatClampNeg) ≤ ((nI 3) * l4) then (some (-1 : Int32)) else (Option.bind (g_M_numberAt E l1 ((nI 3) * l4)) (fun r2 => (Option.bind (g_M_numberAt E l1 (((nI 3) * l4) + (nI 1))) (fun r3 => (Option.bind (g_M_sitterAt F D ((r2).toInt32) ((r3).toInt32)) (fun r4 => (if r4 = (-1 : Int32) then (some l4) else (Option.bind (g_M_highOf F D r4 l2) (fun r5 => (Option.bind (g_M_numberAt E l1 (((nI 3) * l4) + (nI 2))) (fun r6 => (if (lg_cmp ((r5).toInt64) r6) = 0 then (k16 l1 l2 (l4 + (nI 1))) else (some l4)))))))))))))))
set_option maxRecDepth 100000 in
set_option maxHeartbeats 4000000 in
theorem tb_M_odd_16 (X : ev_X) (F : Nat) (d : Nat) (hd : 4 ≤ d + 1) (D : mx_D) (E : mx_E) (k16 : Int32 → Int32 → Int32 → Option (Int32)) (K16 : ∀ (l1 : Int32) (l2 : Int32) (l4 : Int32) (v : Int32), k16 l1 l2 l4 = some v → ev X (d + 1) 317 (16, [some (.ref 116), some (.int l1), some (.int l2), none, some (.int l4), none], [], D, E) (qR (some (.int v)) D E)) (l1 : Int32) (l2 : Int32) (l4 : Int32) (v : Int32) (h : b_M_odd_16 F D E k16 l1 l2 l4 = some v) : ev X (d + 1) 317 (16, [some (.ref 116), some (.int l1), some (.int l2), none, some (.int l4), none], [], D, E) (qR (some (.int v)) D E) := by
  have hq : kq_m 317 = some kq_q317 := rfl
  unfold b_M_odd_16 at h
  refine gv_n hq 6 (S' := (25, [some (.ref 116), some (.int l1), some (.int l2), none, some (.int l4), none], [.int l1, .ref 137, .int ((nI 3) * l4)], D, E)) rfl ?_
  refine gv_ia hq rfl rfl rfl h 26 rfl (fun h => ?_)
  refine gv_b hq rfl h 95 29 rfl rfl rfl (fun h => ?_) (fun h => ?_)
  · refine gv_n hq 1 (S' := (96, [some (.ref 116), some (.int l1), some (.int l2), none, some (.int l4), none], [.int (-1 : Int32)], D, E)) rfl ?_
    cases h
    exact ev_ret hq rfl rfl ⟨rfl, rfl, rfl⟩
  · refine gv_n hq 6 (S' := (36, [some (.ref 116), some (.int l1), some (.int l2), none, some (.int l4), none], [.int ((nI 3) * l4), .int l1, .ref 116, .ref 116], D, E)) rfl ?_
    obtain ⟨r2, h1, h⟩ := Option.bind_eq_some_iff.mp h
    refine gv_d hq rfl rfl rfl rfl rfl ((t_M_numberAt X d D E _ _ _ h1)) (S' := (39, [some (.ref 116), some (.int l1), some (.int l2), none, some (.int l4), none], [.long r2, .ref 116], D, E)) rfl ?_
    refine gv_n hq 8 (S' := (48, [some (.ref 116), some (.int l1), some (.int l2), none, some (.int l4), none], [.int (((nI 3) * l4) + (nI 1)), .int l1, .ref 116, .int ((r2).toInt32), .ref 116], D, E)) rfl ?_
    obtain ⟨r3, h1, h⟩ := Option.bind_eq_some_iff.mp h
    refine gv_d hq rfl rfl rfl rfl rfl ((t_M_numberAt X d D E _ _ _ h1)) (S' := (51, [some (.ref 116), some (.int l1), some (.int l2), none, some (.int l4), none], [.long r3, .int ((r2).toInt32), .ref 116], D, E)) rfl ?_
    refine gv_n hq 1 (S' := (52, [some (.ref 116), some (.int l1), some (.int l2), none, some (.int l4), none], [.int ((r3).toInt32), .int ((r2).toInt32), .ref 116], D, E)) rfl ?_
    obtain ⟨r4, h1, h⟩ := Option.bind_eq_some_iff.mp h
    refine gv_d hq rfl rfl rfl rfl rfl (gv_dd (by omega) (t_M_sitterAt X F (d - 1) (by omega) D E _ _ _ h1)) (S' := (55, [some (.ref 116), some (.int l1), some (.int l2), none, some (.int l4), none], [.int r4], D, E)) rfl ?_
    refine gv_n hq 3 (S' := (60, [some (.ref 116), some (.int l1), some (.int l2), none, some (.int l4), some (.int r4)], [.int (-1 : Int32), .int r4], D, E)) rfl ?_
    refine gv_b hq rfl h 86 63 rfl rfl rfl (fun h => ?_) (fun h => ?_)
    · refine gv_n hq 1 (S' := (88, [some (.ref 116), some (.int l1), some (.int l2), none, some (.int l4), some (.int r4)], [.int l4], D, E)) rfl ?_
      cases h
      exact ev_ret hq rfl rfl ⟨rfl, rfl, rfl⟩
    · refine gv_n hq 3 (S' := (67, [some (.ref 116), some (.int l1), some (.int l2), none, some (.int l4), some (.int r4)], [.int l2, .int r4, .ref 116], D, E)) rfl ?_
      obtain ⟨r5, h1, h⟩ := Option.bind_eq_some_iff.mp h
      refine gv_d hq rfl rfl rfl rfl rfl (gv_dd (by omega) (t_M_highOf X F (d - 1) (by omega) D E _ _ _ h1)) (S' := (70, [some (.ref 116), some (.int l1), some (.int l2), none, some (.int l4), some (.int r4)], [.int r5], D, E)) rfl ?_
      refine gv_n hq 8 (S' := (79, [some (.ref 116), some (.int l1), some (.int l2), none, some (.int l4), some (.int r4)], [.int (((nI 3) * l4) + (nI 2)), .int l1, .ref 116, .long ((r5).toInt64)], D, E)) rfl ?_
      obtain ⟨r6, h1, h⟩ := Option.bind_eq_some_iff.mp h
      refine gv_d hq rfl rfl rfl rfl rfl ((t_M_numberAt X d D E _ _ _ h1)) (S' := (82, [some (.ref 116), some (.int l1), some (.int l2), none, some (.int l4), some (.int r4)], [.long r6, .long ((r5).toInt64)], D, E)) rfl ?_
      refine gv_n hq 1 (S' := (83, [some (.ref 116), some (.int l1), some (.int l2), none, some (.int l4), some (.int r4)], [.int (lg_cmp ((r5).toInt64) r6)], D, E)) rfl ?_
      refine gv_b hq rfl h 89 86 rfl rfl rfl (fun h => ?_) (fun h => ?_)
      · refine gv_n hq 2 (S' := (16, [some (.ref 116), some (.int l1), some (.int l2), none, some (.int (l4 + (nI 1))), some (.int r4)], [], D, E)) rfl ?_
        exact gv_w (K16 _ _ _ _ h) (And.intro rfl (And.intro rfl (And.intro rfl (And.intro rfl trivial))))
      · refine gv_n hq 1 (S' := (88, [some (.ref 116), some (.int l1), some (.int l2), none, some (.int l4), some (.int r4)], [.int l4], D, E)) rfl ?_
        cases h
        exact ev_ret hq rfl rfl ⟨rfl, rfl, rfl⟩
def g_M_odd_16 (F : Nat) (D : mx_D) (E : mx_E) : Nat → Int32 → Int32 → Int32 → Option (Int32) := it (fun k16 => b_M_odd_16 F D E k16) (fun _ _ _ => none)
set_option maxRecDepth 100000 in
set_option maxHeartbeats 4000000 in
theorem t_M_odd_16 (X : ev_X) (F : Nat) (d : Nat) (hd : 4 ≤ d + 1) (D : mx_D) (E : mx_E)  : ∀ (n : Nat) (l1 : Int32) (l2 : Int32) (l4 : Int32) (v : Int32), g_M_odd_16 F D E n l1 l2 l4 = some v → ev X (d + 1) 317 (16, [some (.ref 116), some (.int l1), some (.int l2), none, some (.int l4), none], [], D, E) (qR (some (.int v)) D E) := by
  intro n
  induction n with
  | zero => intro l1 l2 l4 v h; cases h
  | succ n ih => intro l1 l2 l4 v h; exact tb_M_odd_16 X F d hd D E (g_M_odd_16 F D E n) ih l1 l2 l4 v h
def g_M_odd (F : Nat) (D : mx_D) (E : mx_E) (a1 : Int32) (a2 : Int32) : Option (Int32) := (Option.bind (g_M_asksSeen F D E a1 a2) (fun r1 => (if 0 ≤ r1 then (g_M_odd_16 F D E F a1 a2 (nI 0)) else (some r1))))
set_option maxRecDepth 100000 in
set_option maxHeartbeats 4000000 in
theorem t_M_odd (X : ev_X) (F : Nat) (d : Nat) (hd : 4 ≤ d + 1) (D : mx_D) (E : mx_E) (a1 : Int32) (a2 : Int32) (v : Int32) (h : g_M_odd F D E a1 a2 = some v) : ev X (d + 1) 317 (0, [some (.ref 116), some (.int a1), some (.int a2), none, none, none], [], D, E) (qR (some (.int v)) D E) := by
  have hq : kq_m 317 = some kq_q317 := rfl
  unfold g_M_odd at h
  refine gv_n hq 3 (S' := (3, [some (.ref 116), some (.int a1), some (.int a2), none, none, none], [.int a2, .int a1, .ref 116], D, E)) rfl ?_
  obtain ⟨r1, h1, h⟩ := Option.bind_eq_some_iff.mp h
  refine gv_d hq rfl rfl rfl rfl rfl (gv_dd (by omega) (t_M_asksSeen X F (d - 1) (by omega) D E _ _ _ h1)) (S' := (6, [some (.ref 116), some (.int a1), some (.int a2), none, none, none], [.int r1], D, E)) rfl ?_
  refine gv_n hq 2 (S' := (8, [some (.ref 116), some (.int a1), some (.int a2), some (.int r1), none, none], [.int r1], D, E)) rfl ?_
  refine gv_b hq rfl h 13 11 rfl rfl rfl (fun h => ?_) (fun h => ?_)
  · refine gv_n hq 2 (S' := (16, [some (.ref 116), some (.int a1), some (.int a2), some (.int r1), some (.int (nI 0)), none], [], D, E)) rfl ?_
    exact gv_w (t_M_odd_16 X F d hd D E F _ _ _ _ h) (And.intro rfl (And.intro rfl (And.intro rfl (And.intro rfl trivial))))
  · refine gv_n hq 1 (S' := (12, [some (.ref 116), some (.int a1), some (.int a2), some (.int r1), none, none], [.int r1], D, E)) rfl ?_
    cases h
    exact ev_ret hq rfl rfl ⟨rfl, rfl, rfl⟩
def g_X_isSeed (a0 : Int32) : Int32 := (if a0 < 0 then (nI 0) else (if (nI 2000000000) < a0 then (nI 0) else (nI 1)))
set_option maxRecDepth 100000 in
set_option maxHeartbeats 4000000 in
theorem t_X_isSeed (X : ev_X) (d : Nat) (D : mx_D) (E : mx_E) (a0 : Int32) (v : Int32) (h : g_X_isSeed a0 = v) : ev X d 172 (0, [some (.int a0)], [], D, E) (qR (some (.int v)) D E) := by
  have hq : kq_m 172 = some kq_q172 := rfl
  unfold g_X_isSeed at h
  refine gv_n hq 1 (S' := (1, [some (.int a0)], [.int a0], D, E)) rfl ?_
  refine gv_b hq rfl h 15 4 rfl rfl rfl (fun h => ?_) (fun h => ?_)
  · refine gv_n hq 1 (S' := (16, [some (.int a0)], [.int (nI 0)], D, E)) rfl ?_
    subst h
    exact ev_ret hq rfl rfl ⟨rfl, rfl, rfl⟩
  · refine gv_n hq 2 (S' := (8, [some (.int a0)], [.int (nI 2000000000), .int a0], D, E)) rfl ?_
    refine gv_b hq rfl h 15 11 rfl rfl rfl (fun h => ?_) (fun h => ?_)
    · refine gv_n hq 1 (S' := (16, [some (.int a0)], [.int (nI 0)], D, E)) rfl ?_
      subst h
      exact ev_ret hq rfl rfl ⟨rfl, rfl, rfl⟩
    · refine gv_n hq 2 (S' := (16, [some (.int a0)], [.int (nI 1)], D, E)) rfl ?_
      subst h
      exact ev_ret hq rfl rfl ⟨rfl, rfl, rfl⟩
theorem z_X_isSeed (a0 : Int32) : g_X_isSeed a0 = 0 ∨ g_X_isSeed a0 = 1 := by
  unfold g_X_isSeed
  (repeat' split) <;> first | exact Or.inl rfl | exact Or.inr rfl
def b_Heights_growByDraws_6 (F : Nat) (k6 : Int32 → Int64 → Int32 → mx_D → Option (Int64 × mx_D)) (l3 : Int32) (l4 : Int64) (l6 : Int32) (D : mx_D) : Option (Int64 × mx_D) := (if l3 ≤ l6 then (some (l4, D)) else (if (nI 8) ≤ l6 then (some (l4, D)) else (rk 8 l6 (rk 8 l6 (k6 l3 ((((1103515245 : Int64) * l4) + (12345 : Int64)) - (((1103515245 : Int64) * l4) + (12345 : Int64)) / (2147483648 : Int64) * (2147483648 : Int64)) (l6 + (nI 1)) (sD D 35 (l6).toNatClampNeg ((D 35 (l6).toNatClampNeg) + ((((((((1103515245 : Int64) * l4) + (12345 : Int64)) - (((1103515245 : Int64) * l4) + (12345 : Int64)) / (2147483648 : Int64) * (2147483648 : Int64)) / (65536 : Int64)) - (((((1103515245 : Int64) * l4) + (12345 : Int64)) - (((1103515245 : Int64) * l4) + (12345 : Int64)) / (2147483648 : Int64) * (2147483648 : Int64)) / (65536 : Int64)) / (10 : Int64) * (10 : Int64))).toInt32))))))))
set_option maxRecDepth 100000 in
set_option maxHeartbeats 4000000 in
theorem tb_Heights_growByDraws_6 (X : ev_X) (F : Nat) (d : Nat) (E : mx_E) (k6 : Int32 → Int64 → Int32 → mx_D → Option (Int64 × mx_D)) (K6 : ∀ (l3 : Int32) (l4 : Int64) (l6 : Int32) (D : mx_D) (v : Int64 × mx_D), k6 l3 l4 l6 D = some v → ev X d 53 (6, [some (.ref 34), none, none, some (.int l3), some (.long l4), none, some (.int l6)], [], D, E) (qR (some (.long v.1)) v.2 E)) (l3 : Int32) (l4 : Int64) (l6 : Int32) (D : mx_D) (v : Int64 × mx_D) (h : b_Heights_growByDraws_6 F k6 l3 l4 l6 D = some v) : ev X d 53 (6, [some (.ref 34), none, none, some (.int l3), some (.long l4), none, some (.int l6)], [], D, E) (qR (some (.long v.1)) v.2 E) := by
  have hq : kq_m 53 = some kq_q53 := rfl
  unfold b_Heights_growByDraws_6 at h
  refine gv_n hq 2 (S' := (9, [some (.ref 34), none, none, some (.int l3), some (.long l4), none, some (.int l6)], [.int l3, .int l6], D, E)) rfl ?_
  refine gv_b hq rfl h 62 12 rfl rfl rfl (fun h => ?_) (fun h => ?_)
  · refine gv_n hq 1 (S' := (64, [some (.ref 34), none, none, some (.int l3), some (.long l4), none, some (.int l6)], [.long l4], D, E)) rfl ?_
    cases h
    exact ev_ret hq rfl rfl ⟨rfl, rfl, rfl⟩
  · refine gv_n hq 2 (S' := (16, [some (.ref 34), none, none, some (.int l3), some (.long l4), none, some (.int l6)], [.int (nI 8), .int l6], D, E)) rfl ?_
    refine gv_b hq rfl h 62 19 rfl rfl rfl (fun h => ?_) (fun h => ?_)
    · refine gv_n hq 1 (S' := (64, [some (.ref 34), none, none, some (.int l3), some (.long l4), none, some (.int l6)], [.long l4], D, E)) rfl ?_
      cases h
      exact ev_ret hq rfl rfl ⟨rfl, rfl, rfl⟩
    · refine gv_n hq 12 (S' := (42, [some (.ref 34), none, none, some (.int l3), some (.long ((((1103515245 : Int64) * l4) + (12345 : Int64)) - (((1103515245 : Int64) * l4) + (12345 : Int64)) / (2147483648 : Int64) * (2147483648 : Int64))), none, some (.int l6)], [.int l6, .ref 35, .int l6, .ref 35], D, E)) rfl ?_
      refine gv_ia hq rfl rfl rfl h 43 rfl (fun h => ?_)
      refine gv_n hq 7 (S' := (55, [some (.ref 34), none, none, some (.int l3), some (.long ((((1103515245 : Int64) * l4) + (12345 : Int64)) - (((1103515245 : Int64) * l4) + (12345 : Int64)) / (2147483648 : Int64) * (2147483648 : Int64))), none, some (.int l6)], [.int ((D 35 (l6).toNatClampNeg) + ((((((((1103515245 : Int64) * l4) + (12345 : Int64)) - (((1103515245 : Int64) * l4) + (12345 : Int64)) / (2147483648 : Int64) * (2147483648 : Int64)) / (65536 : Int64)) - (((((1103515245 : Int64) * l4) + (12345 : Int64)) - (((1103515245 : Int64) * l4) + (12345 : Int64)) / (2147483648 : Int64) * (2147483648 : Int64)) / (65536 : Int64)) / (10 : Int64) * (10 : Int64))).toInt32)), .int l6, .ref 35], D, E)) rfl ?_
      refine gv_is hq rfl rfl h 56 rfl (fun h => ?_)
      refine gv_n hq 2 (S' := (6, [some (.ref 34), none, none, some (.int l3), some (.long ((((1103515245 : Int64) * l4) + (12345 : Int64)) - (((1103515245 : Int64) * l4) + (12345 : Int64)) / (2147483648 : Int64) * (2147483648 : Int64))), none, some (.int (l6 + (nI 1)))], [], (sD D 35 (l6).toNatClampNeg ((D 35 (l6).toNatClampNeg) + ((((((((1103515245 : Int64) * l4) + (12345 : Int64)) - (((1103515245 : Int64) * l4) + (12345 : Int64)) / (2147483648 : Int64) * (2147483648 : Int64)) / (65536 : Int64)) - (((((1103515245 : Int64) * l4) + (12345 : Int64)) - (((1103515245 : Int64) * l4) + (12345 : Int64)) / (2147483648 : Int64) * (2147483648 : Int64)) / (65536 : Int64)) / (10 : Int64) * (10 : Int64))).toInt32))), E)) rfl ?_
      exact gv_w (K6 _ _ _ _ _ h) (And.intro rfl (And.intro rfl (And.intro rfl (And.intro rfl trivial))))
def g_Heights_growByDraws_6 (F : Nat) : Nat → Int32 → Int64 → Int32 → mx_D → Option (Int64 × mx_D) := it (fun k6 => b_Heights_growByDraws_6 F k6) (fun _ _ _ _ => none)
set_option maxRecDepth 100000 in
set_option maxHeartbeats 4000000 in
theorem t_Heights_growByDraws_6 (X : ev_X) (F : Nat) (d : Nat) (E : mx_E)  : ∀ (n : Nat) (l3 : Int32) (l4 : Int64) (l6 : Int32) (D : mx_D) (v : Int64 × mx_D), g_Heights_growByDraws_6 F n l3 l4 l6 D = some v → ev X d 53 (6, [some (.ref 34), none, none, some (.int l3), some (.long l4), none, some (.int l6)], [], D, E) (qR (some (.long v.1)) v.2 E) := by
  intro n
  induction n with
  | zero => intro l3 l4 l6 D v h; cases h
  | succ n ih => intro l3 l4 l6 D v h; exact tb_Heights_growByDraws_6 X F d E (g_Heights_growByDraws_6 F n) ih l3 l4 l6 D v h
def g_Heights_growByDraws (F : Nat) (a1 : Int64) (a3 : Int32) (D : mx_D) : Option (Int64 × mx_D) := (g_Heights_growByDraws_6 F F a3 a1 (nI 0) D)
set_option maxRecDepth 100000 in
set_option maxHeartbeats 4000000 in
theorem t_Heights_growByDraws (X : ev_X) (F : Nat) (d : Nat) (E : mx_E) (a1 : Int64) (a3 : Int32) (D : mx_D) (v : Int64 × mx_D) (h : g_Heights_growByDraws F a1 a3 D = some v) : ev X d 53 (0, [some (.ref 34), some (.long a1), none, some (.int a3), none, none, none], [], D, E) (qR (some (.long v.1)) v.2 E) := by
  have hq : kq_m 53 = some kq_q53 := rfl
  unfold g_Heights_growByDraws at h
  refine gv_n hq 4 (S' := (6, [some (.ref 34), some (.long a1), none, some (.int a3), some (.long a1), none, some (.int (nI 0))], [], D, E)) rfl ?_
  exact gv_w (t_Heights_growByDraws_6 X F d E F _ _ _ _ _ h) (And.intro rfl (And.intro rfl (And.intro rfl (And.intro rfl trivial))))
def b_X_firstUnlevelDrawn_18 (F : Nat) (k18 : Int32 → Int64 → Int32 → mx_D → Option (Int32 × mx_D)) (l3 : Int32) (l4 : Int64) (l6 : Int32) (D : mx_D) : Option (Int32 × mx_D) := (if l3 < l6 then (some ((-1 : Int32), D)) else (if l6 ≤ 0 then (Option.bind (g_X_allAreLevel F D) (fun r2 => (if r2 = 0 then (some (l6, D)) else (k18 l3 l4 (l6 + (nI 1)) D)))) else (Option.bind (g_Heights_growByDraws F l4 (D 24 6) D) (fun r3 => (Option.bind (g_X_allAreLevel F r3.2) (fun r4 => (if r4 = 0 then (some (l6, r3.2)) else (k18 l3 r3.1 (l6 + (nI 1)) r3.2))))))))
set_option maxRecDepth 100000 in
set_option maxHeartbeats 4000000 in
theorem tb_X_firstUnlevelDrawn_18 (X : ev_X) (F : Nat) (d : Nat) (hd : 5 ≤ d + 1) (E : mx_E) (k18 : Int32 → Int64 → Int32 → mx_D → Option (Int32 × mx_D)) (K18 : ∀ (l3 : Int32) (l4 : Int64) (l6 : Int32) (D : mx_D) (v : Int32 × mx_D), k18 l3 l4 l6 D = some v → ev X (d + 1) 173 (18, [some (.ref 0), none, none, some (.int l3), some (.long l4), none, some (.int l6)], [], D, E) (qR (some (.int v.1)) v.2 E)) (l3 : Int32) (l4 : Int64) (l6 : Int32) (D : mx_D) (v : Int32 × mx_D) (h : b_X_firstUnlevelDrawn_18 F k18 l3 l4 l6 D = some v) : ev X (d + 1) 173 (18, [some (.ref 0), none, none, some (.int l3), some (.long l4), none, some (.int l6)], [], D, E) (qR (some (.int v.1)) v.2 E) := by
  have hq : kq_m 173 = some kq_q173 := rfl
  unfold b_X_firstUnlevelDrawn_18 at h
  refine gv_n hq 2 (S' := (21, [some (.ref 0), none, none, some (.int l3), some (.long l4), none, some (.int l6)], [.int l3, .int l6], D, E)) rfl ?_
  refine gv_b hq rfl h 66 24 rfl rfl rfl (fun h => ?_) (fun h => ?_)
  · refine gv_n hq 1 (S' := (67, [some (.ref 0), none, none, some (.int l3), some (.long l4), none, some (.int l6)], [.int (-1 : Int32)], D, E)) rfl ?_
    cases h
    exact ev_ret hq rfl rfl ⟨rfl, rfl, rfl⟩
  · refine gv_n hq 1 (S' := (26, [some (.ref 0), none, none, some (.int l3), some (.long l4), none, some (.int l6)], [.int l6], D, E)) rfl ?_
    refine gv_b hq rfl h 50 29 rfl rfl rfl (fun h => ?_) (fun h => ?_)
    · refine gv_n hq 1 (S' := (51, [some (.ref 0), none, none, some (.int l3), some (.long l4), none, some (.int l6)], [.ref 0], D, E)) rfl ?_
      obtain ⟨r2, h1, h⟩ := Option.bind_eq_some_iff.mp h
      refine gv_d hq rfl rfl rfl rfl rfl (gv_dd (by omega) (t_X_allAreLevel X F (d - 1) (by omega) D E _ h1)) (S' := (54, [some (.ref 0), none, none, some (.int l3), some (.long l4), none, some (.int l6)], [.int r2], D, E)) rfl ?_
      refine gv_b hq rfl h 57 60 rfl rfl rfl (fun h => ?_) (fun h => ?_)
      · refine gv_n hq 1 (S' := (59, [some (.ref 0), none, none, some (.int l3), some (.long l4), none, some (.int l6)], [.int l6], D, E)) rfl ?_
        cases h
        exact ev_ret hq rfl rfl ⟨rfl, rfl, rfl⟩
      · refine gv_n hq 2 (S' := (18, [some (.ref 0), none, none, some (.int l3), some (.long l4), none, some (.int (l6 + (nI 1)))], [], D, E)) rfl ?_
        exact gv_w (K18 _ _ _ _ _ h) (And.intro rfl (And.intro rfl (And.intro rfl (And.intro rfl trivial))))
    · refine gv_n hq 7 (S' := (45, [some (.ref 0), none, none, some (.int l3), some (.long l4), none, some (.int l6)], [.int (D 24 6), .long l4, .ref 34], D, E)) rfl ?_
      obtain ⟨r3, h1, h⟩ := Option.bind_eq_some_iff.mp h
      refine gv_d hq rfl rfl rfl rfl rfl ((t_Heights_growByDraws X F d E _ _ _ _ h1)) (S' := (48, [some (.ref 0), none, none, some (.int l3), some (.long l4), none, some (.int l6)], [.long r3.1], r3.2, E)) rfl ?_
      refine gv_n hq 2 (S' := (51, [some (.ref 0), none, none, some (.int l3), some (.long r3.1), none, some (.int l6)], [.ref 0], r3.2, E)) rfl ?_
      obtain ⟨r4, h1, h⟩ := Option.bind_eq_some_iff.mp h
      refine gv_d hq rfl rfl rfl rfl rfl (gv_dd (by omega) (t_X_allAreLevel X F (d - 1) (by omega) r3.2 E _ h1)) (S' := (54, [some (.ref 0), none, none, some (.int l3), some (.long r3.1), none, some (.int l6)], [.int r4], r3.2, E)) rfl ?_
      refine gv_b hq rfl h 57 60 rfl rfl rfl (fun h => ?_) (fun h => ?_)
      · refine gv_n hq 1 (S' := (59, [some (.ref 0), none, none, some (.int l3), some (.long r3.1), none, some (.int l6)], [.int l6], r3.2, E)) rfl ?_
        cases h
        exact ev_ret hq rfl rfl ⟨rfl, rfl, rfl⟩
      · refine gv_n hq 2 (S' := (18, [some (.ref 0), none, none, some (.int l3), some (.long r3.1), none, some (.int (l6 + (nI 1)))], [], r3.2, E)) rfl ?_
        exact gv_w (K18 _ _ _ _ _ h) (And.intro rfl (And.intro rfl (And.intro rfl (And.intro rfl trivial))))
def g_X_firstUnlevelDrawn_18 (F : Nat) : Nat → Int32 → Int64 → Int32 → mx_D → Option (Int32 × mx_D) := it (fun k18 => b_X_firstUnlevelDrawn_18 F k18) (fun _ _ _ _ => none)
set_option maxRecDepth 100000 in
set_option maxHeartbeats 4000000 in
theorem t_X_firstUnlevelDrawn_18 (X : ev_X) (F : Nat) (d : Nat) (hd : 5 ≤ d + 1) (E : mx_E)  : ∀ (n : Nat) (l3 : Int32) (l4 : Int64) (l6 : Int32) (D : mx_D) (v : Int32 × mx_D), g_X_firstUnlevelDrawn_18 F n l3 l4 l6 D = some v → ev X (d + 1) 173 (18, [some (.ref 0), none, none, some (.int l3), some (.long l4), none, some (.int l6)], [], D, E) (qR (some (.int v.1)) v.2 E) := by
  intro n
  induction n with
  | zero => intro l3 l4 l6 D v h; cases h
  | succ n ih => intro l3 l4 l6 D v h; exact tb_X_firstUnlevelDrawn_18 X F d hd E (g_X_firstUnlevelDrawn_18 F n) ih l3 l4 l6 D v h
def g_X_firstUnlevelDrawn (F : Nat) (a1 : Int64) (a3 : Int32) (D : mx_D) : Option (Int32 × mx_D) := (Option.bind (g_Heights_take F (nI 0) D) (fun r1 => (g_X_firstUnlevelDrawn_18 F F a3 a1 (nI 0) r1)))
set_option maxRecDepth 100000 in
set_option maxHeartbeats 4000000 in
theorem t_X_firstUnlevelDrawn (X : ev_X) (F : Nat) (d : Nat) (hd : 5 ≤ d + 1) (E : mx_E) (a1 : Int64) (a3 : Int32) (D : mx_D) (v : Int32 × mx_D) (h : g_X_firstUnlevelDrawn F a1 a3 D = some v) : ev X (d + 1) 173 (0, [some (.ref 0), some (.long a1), none, some (.int a3), none, none, none], [], D, E) (qR (some (.int v.1)) v.2 E) := by
  have hq : kq_m 173 = some kq_q173 := rfl
  unfold g_X_firstUnlevelDrawn at h
  refine gv_n hq 5 (S' := (9, [some (.ref 0), some (.long a1), none, some (.int a3), none, none, none], [.int (nI 0), .ref 19, .ref 34], D, E)) rfl ?_
  obtain ⟨r1, h1, h⟩ := Option.bind_eq_some_iff.mp h
  refine gv_d hq rfl rfl rfl rfl rfl (gv_dd (by omega) (t_Heights_take X F (d - 1) (by omega) E _ _ _ h1)) (S' := (12, [some (.ref 0), some (.long a1), none, some (.int a3), none, none, none], [], r1, E)) rfl ?_
  refine gv_n hq 4 (S' := (18, [some (.ref 0), some (.long a1), none, some (.int a3), some (.long a1), none, some (.int (nI 0))], [], r1, E)) rfl ?_
  exact gv_w (t_X_firstUnlevelDrawn_18 X F d hd E F _ _ _ _ _ h) (And.intro rfl (And.intro rfl (And.intro rfl (And.intro rfl trivial))))
def g_X_drawn (F : Nat) (a1 : Int32) (D : mx_D) : Option (Int32 × mx_D) := (if (g_Church_isThere D) = 0 then (some ((-2 : Int32), D)) else (if (g_X_isSeed a1) = 0 then (some ((-2 : Int32), D)) else (Option.bind (g_X_firstUnlevelDrawn F ((a1).toInt64) (nI 30) D) (fun r1 => (some (r1.1, r1.2))))))
set_option maxRecDepth 100000 in
set_option maxHeartbeats 4000000 in
theorem t_X_drawn (X : ev_X) (F : Nat) (d : Nat) (hd : 6 ≤ d + 1) (E : mx_E) (a1 : Int32) (D : mx_D) (v : Int32 × mx_D) (h : g_X_drawn F a1 D = some v) : ev X (d + 1) 171 (0, [some (.ref 0), some (.int a1)], [], D, E) (qR (some (.int v.1)) v.2 E) := by
  have hq : kq_m 171 = some kq_q171 := rfl
  unfold g_X_drawn at h
  refine gv_n hq 2 (S' := (4, [some (.ref 0), some (.int a1)], [.ref 19], D, E)) rfl ?_
  refine gv_d hq rfl rfl rfl rfl rfl ((t_Church_isThere X d D E _ rfl)) (S' := (7, [some (.ref 0), some (.int a1)], [.int (g_Church_isThere D)], D, E)) rfl ?_
  refine gv_b hq rfl h 17 10 rfl rfl rfl (fun h => ?_) (fun h => ?_)
  · refine gv_n hq 1 (S' := (19, [some (.ref 0), some (.int a1)], [.int (-2 : Int32)], D, E)) rfl ?_
    cases h
    exact ev_ret hq rfl rfl ⟨rfl, rfl, rfl⟩
  · refine gv_n hq 1 (S' := (11, [some (.ref 0), some (.int a1)], [.int a1], D, E)) rfl ?_
    refine gv_d hq rfl rfl rfl rfl rfl ((t_X_isSeed X d D E _ _ rfl)) (S' := (14, [some (.ref 0), some (.int a1)], [.int (g_X_isSeed a1)], D, E)) rfl ?_
    refine gv_b hq rfl h 17 20 rfl rfl rfl (fun h => ?_) (fun h => ?_)
    · refine gv_n hq 1 (S' := (19, [some (.ref 0), some (.int a1)], [.int (-2 : Int32)], D, E)) rfl ?_
      cases h
      exact ev_ret hq rfl rfl ⟨rfl, rfl, rfl⟩
    · refine gv_n hq 4 (S' := (25, [some (.ref 0), some (.int a1)], [.int (nI 30), .long ((a1).toInt64), .ref 0], D, E)) rfl ?_
      obtain ⟨r1, h1, h⟩ := Option.bind_eq_some_iff.mp h
      refine gv_d hq rfl rfl rfl rfl rfl (gv_dd (by omega) (t_X_firstUnlevelDrawn X F (d - 1) (by omega) E _ _ _ _ h1)) (S' := (28, [some (.ref 0), some (.int a1)], [.int r1.1], r1.2, E)) rfl ?_
      cases h
      exact ev_ret hq rfl rfl ⟨rfl, rfl, rfl⟩
def g_M_isSeed (a0 : Int32) : Int32 := (g_M_in ((a0).toInt64) (lN 0) (2000000000 : Int64))
set_option maxRecDepth 100000 in
set_option maxHeartbeats 4000000 in
theorem t_M_isSeed (X : ev_X) (d : Nat) (hd : 1 ≤ d + 1) (D : mx_D) (E : mx_E) (a0 : Int32) (v : Int32) (h : g_M_isSeed a0 = v) : ev X (d + 1) 319 (0, [some (.int a0)], [], D, E) (qR (some (.int v)) D E) := by
  have hq : kq_m 319 = some kq_q319 := rfl
  unfold g_M_isSeed at h
  refine gv_n hq 4 (S' := (6, [some (.int a0)], [.long (2000000000 : Int64), .long (lN 0), .long ((a0).toInt64)], D, E)) rfl ?_
  refine gv_d hq rfl rfl rfl rfl rfl ((t_M_in X d D E _ _ _ _ rfl)) (S' := (9, [some (.int a0)], [.int (g_M_in ((a0).toInt64) (lN 0) (2000000000 : Int64))], D, E)) rfl ?_
  subst h
  exact ev_rz hq rfl rfl rfl (z_M_in ..) ⟨rfl, rfl, rfl⟩
theorem z_M_isSeed (a0 : Int32) : g_M_isSeed a0 = 0 ∨ g_M_isSeed a0 = 1 := by
  unfold g_M_isSeed
  (repeat' split) <;> first | exact Or.inl rfl | exact Or.inr rfl | exact z_M_in ..
def b_M_begins_7 (F : Nat) (k7 : Int32 → mx_D → mx_E → Option (mx_D × mx_E)) (l3 : Int32) (D : mx_D) (E : mx_E) : Option (mx_D × mx_E) := (if (nI 8) ≤ l3 then (some (D, E)) else (rk 8 l3 (k7 (l3 + (nI 1)) (sD D 136 (l3).toNatClampNeg (nI 0)) E)))
set_option maxRecDepth 100000 in
set_option maxHeartbeats 4000000 in
theorem tb_M_begins_7 (X : ev_X) (F : Nat) (d : Nat) (k7 : Int32 → mx_D → mx_E → Option (mx_D × mx_E)) (K7 : ∀ (l3 : Int32) (D : mx_D) (E : mx_E) (v : mx_D × mx_E), k7 l3 D E = some v → ev X d 321 (7, [some (.ref 116), none, none, some (.int l3)], [], D, E) (qR none v.1 v.2)) (l3 : Int32) (D : mx_D) (E : mx_E) (v : mx_D × mx_E) (h : b_M_begins_7 F k7 l3 D E = some v) : ev X d 321 (7, [some (.ref 116), none, none, some (.int l3)], [], D, E) (qR none v.1 v.2) := by
  have hq : kq_m 321 = some kq_q321 := rfl
  unfold b_M_begins_7 at h
  refine gv_n hq 2 (S' := (10, [some (.ref 116), none, none, some (.int l3)], [.int (nI 8), .int l3], D, E)) rfl ?_
  refine gv_b hq rfl h 26 13 rfl rfl rfl (fun h => ?_) (fun h => ?_)
  · cases h
    exact ev_ret hq rfl rfl ⟨rfl, rfl, rfl⟩
  · refine gv_n hq 4 (S' := (19, [some (.ref 116), none, none, some (.int l3)], [.int (nI 0), .int l3, .ref 136], D, E)) rfl ?_
    refine gv_is hq rfl rfl h 20 rfl (fun h => ?_)
    refine gv_n hq 2 (S' := (7, [some (.ref 116), none, none, some (.int (l3 + (nI 1)))], [], (sD D 136 (l3).toNatClampNeg (nI 0)), E)) rfl ?_
    exact gv_w (K7 _ _ _ _ h) (And.intro rfl (And.intro rfl trivial))
def g_M_begins_7 (F : Nat) : Nat → Int32 → mx_D → mx_E → Option (mx_D × mx_E) := it (fun k7 => b_M_begins_7 F k7) (fun _ _ _ => none)
set_option maxRecDepth 100000 in
set_option maxHeartbeats 4000000 in
theorem t_M_begins_7 (X : ev_X) (F : Nat) (d : Nat)  : ∀ (n : Nat) (l3 : Int32) (D : mx_D) (E : mx_E) (v : mx_D × mx_E), g_M_begins_7 F n l3 D E = some v → ev X d 321 (7, [some (.ref 116), none, none, some (.int l3)], [], D, E) (qR none v.1 v.2) := by
  intro n
  induction n with
  | zero => intro l3 D E v h; cases h
  | succ n ih => intro l3 D E v h; exact tb_M_begins_7 X F d (g_M_begins_7 F n) ih l3 D E v h
def g_M_begins (F : Nat) (a1 : Int64) (D : mx_D) (E : mx_E) : Option (mx_D × mx_E) := (g_M_begins_7 F F (nI 0) D (sE E 116 34 a1))
set_option maxRecDepth 100000 in
set_option maxHeartbeats 4000000 in
theorem t_M_begins (X : ev_X) (F : Nat) (d : Nat) (a1 : Int64) (D : mx_D) (E : mx_E) (v : mx_D × mx_E) (h : g_M_begins F a1 D E = some v) : ev X d 321 (0, [some (.ref 116), some (.long a1), none, none], [], D, E) (qR none v.1 v.2) := by
  have hq : kq_m 321 = some kq_q321 := rfl
  unfold g_M_begins at h
  refine gv_n hq 5 (S' := (7, [some (.ref 116), some (.long a1), none, some (.int (nI 0))], [], D, (sE E 116 34 a1))) rfl ?_
  exact gv_w (t_M_begins_7 X F d F _ _ _ _ h) (And.intro rfl (And.intro rfl trivial))
def b_M_isLevelDrawn_38 (F : Nat) (D : mx_D) : Option (Int32 × mx_D) := (Option.bind (g_M_sitters F D) (fun r2 => (Option.bind (g_M_unlevel F D r2) (fun r3 => (if (D 117 2) < r3 then (some ((nI 0), D)) else (some ((nI 1), D)))))))
set_option maxRecDepth 100000 in
set_option maxHeartbeats 4000000 in
theorem tb_M_isLevelDrawn_38 (X : ev_X) (F : Nat) (d : Nat) (hd : 5 ≤ d + 1) (E : mx_E)  (D : mx_D) (v : Int32 × mx_D) (h : b_M_isLevelDrawn_38 F D = some v) : ev X (d + 1) 324 (38, [some (.ref 116), none], [], D, E) (qR (some (.int v.1)) v.2 E) := by
  have hq : kq_m 324 = some kq_q324 := rfl
  unfold b_M_isLevelDrawn_38 at h
  refine gv_n hq 2 (S' := (40, [some (.ref 116), none], [.ref 116, .ref 116], D, E)) rfl ?_
  obtain ⟨r2, h1, h⟩ := Option.bind_eq_some_iff.mp h
  refine gv_d hq rfl rfl rfl rfl rfl (gv_dd (by omega) (t_M_sitters X F (d - 1) (by omega) D E _ h1)) (S' := (43, [some (.ref 116), none], [.int r2, .ref 116], D, E)) rfl ?_
  obtain ⟨r3, h1, h⟩ := Option.bind_eq_some_iff.mp h
  refine gv_d hq rfl rfl rfl rfl rfl (gv_dd (by omega) (t_M_unlevel X F (d - 1) (by omega) D E _ _ h1)) (S' := (46, [some (.ref 116), none], [.int r3], D, E)) rfl ?_
  refine gv_n hq 4 (S' := (52, [some (.ref 116), none], [.int (D 117 2), .int r3], D, E)) rfl ?_
  refine gv_b hq rfl h 59 55 rfl rfl rfl (fun h => ?_) (fun h => ?_)
  · refine gv_n hq 1 (S' := (60, [some (.ref 116), none], [.int (nI 0)], D, E)) rfl ?_
    cases h
    exact ev_ret hq rfl rfl ⟨rfl, rfl, rfl⟩
  · refine gv_n hq 2 (S' := (60, [some (.ref 116), none], [.int (nI 1)], D, E)) rfl ?_
    cases h
    exact ev_ret hq rfl rfl ⟨rfl, rfl, rfl⟩
def b_M_isLevelDrawn_7 (F : Nat) (k7 : Int32 → mx_D → Option (Int32 × mx_D)) (l1 : Int32) (D : mx_D) : Option (Int32 × mx_D) := (if (D 117 4) ≤ l1 then (b_M_isLevelDrawn_38 F D) else (rk 8 l1 (rk 8 l1 (rk 8 l1 (k7 (l1 + (nI 1)) (sD D 123 (l1).toNatClampNeg ((D 123 (l1).toNatClampNeg) + (D 136 (l1).toNatClampNeg))))))))
set_option maxRecDepth 100000 in
set_option maxHeartbeats 4000000 in
theorem tb_M_isLevelDrawn_7 (X : ev_X) (F : Nat) (d : Nat) (hd : 5 ≤ d + 1) (E : mx_E) (k7 : Int32 → mx_D → Option (Int32 × mx_D)) (K7 : ∀ (l1 : Int32) (D : mx_D) (v : Int32 × mx_D), k7 l1 D = some v → ev X (d + 1) 324 (7, [some (.ref 116), some (.int l1)], [], D, E) (qR (some (.int v.1)) v.2 E)) (l1 : Int32) (D : mx_D) (v : Int32 × mx_D) (h : b_M_isLevelDrawn_7 F k7 l1 D = some v) : ev X (d + 1) 324 (7, [some (.ref 116), some (.int l1)], [], D, E) (qR (some (.int v.1)) v.2 E) := by
  have hq : kq_m 324 = some kq_q324 := rfl
  unfold b_M_isLevelDrawn_7 at h
  refine gv_n hq 5 (S' := (14, [some (.ref 116), some (.int l1)], [.int (D 117 4), .int l1], D, E)) rfl ?_
  refine gv_b hq rfl h 38 17 rfl rfl rfl (fun h => ?_) (fun h => ?_)
  · exact gv_w (tb_M_isLevelDrawn_38 X F d hd E _ _ h) (And.intro rfl trivial)
  · refine gv_n hq 4 (S' := (23, [some (.ref 116), some (.int l1)], [.int l1, .ref 123, .int l1, .ref 123], D, E)) rfl ?_
    refine gv_ia hq rfl rfl rfl h 24 rfl (fun h => ?_)
    refine gv_n hq 3 (S' := (29, [some (.ref 116), some (.int l1)], [.int l1, .ref 136, .int (D 123 (l1).toNatClampNeg), .int l1, .ref 123], D, E)) rfl ?_
    refine gv_ia hq rfl rfl rfl h 30 rfl (fun h => ?_)
    refine gv_n hq 1 (S' := (31, [some (.ref 116), some (.int l1)], [.int ((D 123 (l1).toNatClampNeg) + (D 136 (l1).toNatClampNeg)), .int l1, .ref 123], D, E)) rfl ?_
    refine gv_is hq rfl rfl h 32 rfl (fun h => ?_)
    refine gv_n hq 2 (S' := (7, [some (.ref 116), some (.int (l1 + (nI 1)))], [], (sD D 123 (l1).toNatClampNeg ((D 123 (l1).toNatClampNeg) + (D 136 (l1).toNatClampNeg))), E)) rfl ?_
    exact gv_w (K7 _ _ _ h) (And.intro rfl (And.intro rfl trivial))
def g_M_isLevelDrawn_7 (F : Nat) : Nat → Int32 → mx_D → Option (Int32 × mx_D) := it (fun k7 => b_M_isLevelDrawn_7 F k7) (fun _ _ => none)
set_option maxRecDepth 100000 in
set_option maxHeartbeats 4000000 in
theorem t_M_isLevelDrawn_7 (X : ev_X) (F : Nat) (d : Nat) (hd : 5 ≤ d + 1) (E : mx_E)  : ∀ (n : Nat) (l1 : Int32) (D : mx_D) (v : Int32 × mx_D), g_M_isLevelDrawn_7 F n l1 D = some v → ev X (d + 1) 324 (7, [some (.ref 116), some (.int l1)], [], D, E) (qR (some (.int v.1)) v.2 E) := by
  intro n
  induction n with
  | zero => intro l1 D v h; cases h
  | succ n ih => intro l1 D v h; exact tb_M_isLevelDrawn_7 X F d hd E (g_M_isLevelDrawn_7 F n) ih l1 D v h
def g_M_isLevelDrawn (F : Nat) (D : mx_D) : Option (Int32 × mx_D) := (Option.bind (g_M_lay F (nI 0) D) (fun r1 => (g_M_isLevelDrawn_7 F F (nI 0) r1)))
set_option maxRecDepth 100000 in
set_option maxHeartbeats 4000000 in
theorem t_M_isLevelDrawn (X : ev_X) (F : Nat) (d : Nat) (hd : 5 ≤ d + 1) (E : mx_E) (D : mx_D) (v : Int32 × mx_D) (h : g_M_isLevelDrawn F D = some v) : ev X (d + 1) 324 (0, [some (.ref 116), none], [], D, E) (qR (some (.int v.1)) v.2 E) := by
  have hq : kq_m 324 = some kq_q324 := rfl
  unfold g_M_isLevelDrawn at h
  refine gv_n hq 2 (S' := (2, [some (.ref 116), none], [.int (nI 0), .ref 116], D, E)) rfl ?_
  obtain ⟨r1, h1, h⟩ := Option.bind_eq_some_iff.mp h
  refine gv_d hq rfl rfl rfl rfl rfl (gv_dd (by omega) (t_M_lay X F (d - 1) (by omega) E _ _ _ h1)) (S' := (5, [some (.ref 116), none], [], r1, E)) rfl ?_
  refine gv_n hq 2 (S' := (7, [some (.ref 116), some (.int (nI 0))], [], r1, E)) rfl ?_
  exact gv_w (t_M_isLevelDrawn_7 X F d hd E F _ _ _ h) (And.intro rfl (And.intro rfl trivial))
