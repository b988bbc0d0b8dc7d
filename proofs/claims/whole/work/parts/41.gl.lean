/-! ===== pictures of the methods and the rows that tie them to their frames, printed by a program of mine ===== -/
def b_Arrays_fill2_109_6 (F : Nat) (k6 : Int64 → Int32 → Int32 → mx_E → Option (mx_E)) (l1 : Int64) (l3 : Int32) (l4 : Int32) (E : mx_E) : Option (mx_E) := (if l4 ≤ l3 then (some E) else (rk 60 l3 (k6 l1 (l3 + (nI 1)) l4 (sE E 109 (l3).toNatClampNeg l1))))
set_option maxRecDepth 100000 in
set_option maxHeartbeats 4000000 in
theorem tb_Arrays_fill2_109_6 (X : ev_X) (F : Nat) (d : Nat) (D : mx_D) (k6 : Int64 → Int32 → Int32 → mx_E → Option (mx_E)) (K6 : ∀ (l1 : Int64) (l3 : Int32) (l4 : Int32) (E : mx_E) (v : mx_E), k6 l1 l3 l4 E = some v → ev X d 334 (6, [some (.ref 109), some (.long l1), none, some (.int l3), some (.int l4)], [], D, E) (qR none D v)) (l1 : Int64) (l3 : Int32) (l4 : Int32) (E : mx_E) (v : mx_E) (h : b_Arrays_fill2_109_6 F k6 l1 l3 l4 E = some v) : ev X d 334 (6, [some (.ref 109), some (.long l1), none, some (.int l3), some (.int l4)], [], D, E) (qR none D v) := by
  have hq : kq_m 334 = some kq_q334 := rfl
  unfold b_Arrays_fill2_109_6 at h
  refine gv_n hq 2 (S' := (9, [some (.ref 109), some (.long l1), none, some (.int l3), some (.int l4)], [.int l4, .int l3], D, E)) rfl ?_
  refine gv_b hq rfl h 22 12 rfl rfl rfl (fun h => ?_) (fun h => ?_)
  · cases h
    exact ev_ret hq rfl rfl ⟨rfl, rfl, rfl⟩
  · refine gv_n hq 3 (S' := (15, [some (.ref 109), some (.long l1), none, some (.int l3), some (.int l4)], [.long l1, .int l3, .ref 109], D, E)) rfl ?_
    refine gv_ls hq rfl rfl h 16 rfl (fun h => ?_)
    refine gv_n hq 2 (S' := (6, [some (.ref 109), some (.long l1), none, some (.int (l3 + (nI 1))), some (.int l4)], [], D, (sE E 109 (l3).toNatClampNeg l1))) rfl ?_
    exact gv_w (K6 _ _ _ _ _ h) (And.intro rfl (And.intro rfl (And.intro rfl (And.intro rfl trivial))))
def g_Arrays_fill2_109_6 (F : Nat) : Nat → Int64 → Int32 → Int32 → mx_E → Option (mx_E) := it (fun k6 => b_Arrays_fill2_109_6 F k6) (fun _ _ _ _ => none)
set_option maxRecDepth 100000 in
set_option maxHeartbeats 4000000 in
theorem t_Arrays_fill2_109_6 (X : ev_X) (F : Nat) (d : Nat) (D : mx_D)  : ∀ (n : Nat) (l1 : Int64) (l3 : Int32) (l4 : Int32) (E : mx_E) (v : mx_E), g_Arrays_fill2_109_6 F n l1 l3 l4 E = some v → ev X d 334 (6, [some (.ref 109), some (.long l1), none, some (.int l3), some (.int l4)], [], D, E) (qR none D v) := by
  intro n
  induction n with
  | zero => intro l1 l3 l4 E v h; cases h
  | succ n ih => intro l1 l3 l4 E v h; exact tb_Arrays_fill2_109_6 X F d D (g_Arrays_fill2_109_6 F n) ih l1 l3 l4 E v h
def g_Arrays_fill2_109 (F : Nat) (a1 : Int64) (E : mx_E) : Option (mx_E) := (g_Arrays_fill2_109_6 F F a1 (nI 0) (nI 60) E)
set_option maxRecDepth 100000 in
set_option maxHeartbeats 4000000 in
theorem t_Arrays_fill2_109 (X : ev_X) (F : Nat) (d : Nat) (D : mx_D) (a1 : Int64) (E : mx_E) (v : mx_E) (h : g_Arrays_fill2_109 F a1 E = some v) : ev X d 334 (0, [some (.ref 109), some (.long a1), none, none, none], [], D, E) (qR none D v) := by
  have hq : kq_m 334 = some kq_q334 := rfl
  unfold g_Arrays_fill2_109 at h
  refine gv_n hq 5 (S' := (6, [some (.ref 109), some (.long a1), none, some (.int (nI 0)), some (.int (nI 60))], [], D, E)) rfl ?_
  exact gv_w (t_Arrays_fill2_109_6 X F d D F _ _ _ _ _ h) (And.intro rfl (And.intro rfl (And.intro rfl (And.intro rfl trivial))))
def g_Row_begin_108 (F : Nat) (a1 : Int32) (a2 : Int32) (D : mx_D) (E : mx_E) : Option (mx_D × mx_E) := (Option.bind (g_Arrays_fill2_109 F (lN 0) E) (fun r1 => (some ((sD (sD (sD D 108 1 (nI 1)) 108 2 a1) 108 3 a2), r1))))
set_option maxRecDepth 100000 in
set_option maxHeartbeats 4000000 in
theorem t_Row_begin_108 (X : ev_X) (F : Nat) (d : Nat) (hd : 1 ≤ d + 1) (a1 : Int32) (a2 : Int32) (D : mx_D) (E : mx_E) (v : mx_D × mx_E) (h : g_Row_begin_108 F a1 a2 D E = some v) : ev X (d + 1) 79 (0, [some (.ref 108), some (.int a1), some (.int a2)], [], D, E) (qR none v.1 v.2) := by
  have hq : kq_m 79 = some kq_q79 := rfl
  unfold g_Row_begin_108 at h
  refine gv_n hq 12 (S' := (20, [some (.ref 108), some (.int a1), some (.int a2)], [.long (lN 0), .ref 109], (sD (sD (sD D 108 1 (nI 1)) 108 2 a1) 108 3 a2), E)) rfl ?_
  obtain ⟨r1, h1, h⟩ := Option.bind_eq_some_iff.mp h
  refine gv_d hq rfl rfl rfl rfl rfl ((t_Arrays_fill2_109 X F d (sD (sD (sD D 108 1 (nI 1)) 108 2 a1) 108 3 a2) _ _ _ h1)) (S' := (23, [some (.ref 108), some (.int a1), some (.int a2)], [], (sD (sD (sD D 108 1 (nI 1)) 108 2 a1) 108 3 a2), r1)) rfl ?_
  cases h
  exact ev_ret hq rfl rfl ⟨rfl, rfl, rfl⟩
def b_Arrays_fill2_111_6 (F : Nat) (k6 : Int64 → Int32 → Int32 → mx_E → Option (mx_E)) (l1 : Int64) (l3 : Int32) (l4 : Int32) (E : mx_E) : Option (mx_E) := (if l4 ≤ l3 then (some E) else (rk 60 l3 (k6 l1 (l3 + (nI 1)) l4 (sE E 111 (l3).toNatClampNeg l1))))
set_option maxRecDepth 100000 in
set_option maxHeartbeats 4000000 in
theorem tb_Arrays_fill2_111_6 (X : ev_X) (F : Nat) (d : Nat) (D : mx_D) (k6 : Int64 → Int32 → Int32 → mx_E → Option (mx_E)) (K6 : ∀ (l1 : Int64) (l3 : Int32) (l4 : Int32) (E : mx_E) (v : mx_E), k6 l1 l3 l4 E = some v → ev X d 334 (6, [some (.ref 111), some (.long l1), none, some (.int l3), some (.int l4)], [], D, E) (qR none D v)) (l1 : Int64) (l3 : Int32) (l4 : Int32) (E : mx_E) (v : mx_E) (h : b_Arrays_fill2_111_6 F k6 l1 l3 l4 E = some v) : ev X d 334 (6, [some (.ref 111), some (.long l1), none, some (.int l3), some (.int l4)], [], D, E) (qR none D v) := by
  have hq : kq_m 334 = some kq_q334 := rfl
  unfold b_Arrays_fill2_111_6 at h
  refine gv_n hq 2 (S' := (9, [some (.ref 111), some (.long l1), none, some (.int l3), some (.int l4)], [.int l4, .int l3], D, E)) rfl ?_
  refine gv_b hq rfl h 22 12 rfl rfl rfl (fun h => ?_) (fun h => ?_)
  · cases h
    exact ev_ret hq rfl rfl ⟨rfl, rfl, rfl⟩
  · refine gv_n hq 3 (S' := (15, [some (.ref 111), some (.long l1), none, some (.int l3), some (.int l4)], [.long l1, .int l3, .ref 111], D, E)) rfl ?_
    refine gv_ls hq rfl rfl h 16 rfl (fun h => ?_)
    refine gv_n hq 2 (S' := (6, [some (.ref 111), some (.long l1), none, some (.int (l3 + (nI 1))), some (.int l4)], [], D, (sE E 111 (l3).toNatClampNeg l1))) rfl ?_
    exact gv_w (K6 _ _ _ _ _ h) (And.intro rfl (And.intro rfl (And.intro rfl (And.intro rfl trivial))))
def g_Arrays_fill2_111_6 (F : Nat) : Nat → Int64 → Int32 → Int32 → mx_E → Option (mx_E) := it (fun k6 => b_Arrays_fill2_111_6 F k6) (fun _ _ _ _ => none)
set_option maxRecDepth 100000 in
set_option maxHeartbeats 4000000 in
theorem t_Arrays_fill2_111_6 (X : ev_X) (F : Nat) (d : Nat) (D : mx_D)  : ∀ (n : Nat) (l1 : Int64) (l3 : Int32) (l4 : Int32) (E : mx_E) (v : mx_E), g_Arrays_fill2_111_6 F n l1 l3 l4 E = some v → ev X d 334 (6, [some (.ref 111), some (.long l1), none, some (.int l3), some (.int l4)], [], D, E) (qR none D v) := by
  intro n
  induction n with
  | zero => intro l1 l3 l4 E v h; cases h
  | succ n ih => intro l1 l3 l4 E v h; exact tb_Arrays_fill2_111_6 X F d D (g_Arrays_fill2_111_6 F n) ih l1 l3 l4 E v h
def g_Arrays_fill2_111 (F : Nat) (a1 : Int64) (E : mx_E) : Option (mx_E) := (g_Arrays_fill2_111_6 F F a1 (nI 0) (nI 60) E)
set_option maxRecDepth 100000 in
set_option maxHeartbeats 4000000 in
theorem t_Arrays_fill2_111 (X : ev_X) (F : Nat) (d : Nat) (D : mx_D) (a1 : Int64) (E : mx_E) (v : mx_E) (h : g_Arrays_fill2_111 F a1 E = some v) : ev X d 334 (0, [some (.ref 111), some (.long a1), none, none, none], [], D, E) (qR none D v) := by
  have hq : kq_m 334 = some kq_q334 := rfl
  unfold g_Arrays_fill2_111 at h
  refine gv_n hq 5 (S' := (6, [some (.ref 111), some (.long a1), none, some (.int (nI 0)), some (.int (nI 60))], [], D, E)) rfl ?_
  exact gv_w (t_Arrays_fill2_111_6 X F d D F _ _ _ _ _ h) (And.intro rfl (And.intro rfl (And.intro rfl (And.intro rfl trivial))))
def g_Row_begin_110 (F : Nat) (a1 : Int32) (a2 : Int32) (D : mx_D) (E : mx_E) : Option (mx_D × mx_E) := (Option.bind (g_Arrays_fill2_111 F (lN 0) E) (fun r1 => (some ((sD (sD (sD D 110 1 (nI 1)) 110 2 a1) 110 3 a2), r1))))
set_option maxRecDepth 100000 in
set_option maxHeartbeats 4000000 in
theorem t_Row_begin_110 (X : ev_X) (F : Nat) (d : Nat) (hd : 1 ≤ d + 1) (a1 : Int32) (a2 : Int32) (D : mx_D) (E : mx_E) (v : mx_D × mx_E) (h : g_Row_begin_110 F a1 a2 D E = some v) : ev X (d + 1) 79 (0, [some (.ref 110), some (.int a1), some (.int a2)], [], D, E) (qR none v.1 v.2) := by
  have hq : kq_m 79 = some kq_q79 := rfl
  unfold g_Row_begin_110 at h
  refine gv_n hq 12 (S' := (20, [some (.ref 110), some (.int a1), some (.int a2)], [.long (lN 0), .ref 111], (sD (sD (sD D 110 1 (nI 1)) 110 2 a1) 110 3 a2), E)) rfl ?_
  obtain ⟨r1, h1, h⟩ := Option.bind_eq_some_iff.mp h
  refine gv_d hq rfl rfl rfl rfl rfl ((t_Arrays_fill2_111 X F d (sD (sD (sD D 110 1 (nI 1)) 110 2 a1) 110 3 a2) _ _ _ h1)) (S' := (23, [some (.ref 110), some (.int a1), some (.int a2)], [], (sD (sD (sD D 110 1 (nI 1)) 110 2 a1) 110 3 a2), r1)) rfl ?_
  cases h
  exact ev_ret hq rfl rfl ⟨rfl, rfl, rfl⟩
def b_Arrays_fill2_113_6 (F : Nat) (k6 : Int64 → Int32 → Int32 → mx_E → Option (mx_E)) (l1 : Int64) (l3 : Int32) (l4 : Int32) (E : mx_E) : Option (mx_E) := (if l4 ≤ l3 then (some E) else (rk 60 l3 (k6 l1 (l3 + (nI 1)) l4 (sE E 113 (l3).toNatClampNeg l1))))
set_option maxRecDepth 100000 in
set_option maxHeartbeats 4000000 in
theorem tb_Arrays_fill2_113_6 (X : ev_X) (F : Nat) (d : Nat) (D : mx_D) (k6 : Int64 → Int32 → Int32 → mx_E → Option (mx_E)) (K6 : ∀ (l1 : Int64) (l3 : Int32) (l4 : Int32) (E : mx_E) (v : mx_E), k6 l1 l3 l4 E = some v → ev X d 334 (6, [some (.ref 113), some (.long l1), none, some (.int l3), some (.int l4)], [], D, E) (qR none D v)) (l1 : Int64) (l3 : Int32) (l4 : Int32) (E : mx_E) (v : mx_E) (h : b_Arrays_fill2_113_6 F k6 l1 l3 l4 E = some v) : ev X d 334 (6, [some (.ref 113), some (.long l1), none, some (.int l3), some (.int l4)], [], D, E) (qR none D v) := by
  have hq : kq_m 334 = some kq_q334 := rfl
  unfold b_Arrays_fill2_113_6 at h
  refine gv_n hq 2 (S' := (9, [some (.ref 113), some (.long l1), none, some (.int l3), some (.int l4)], [.int l4, .int l3], D, E)) rfl ?_
  refine gv_b hq rfl h 22 12 rfl rfl rfl (fun h => ?_) (fun h => ?_)
  · cases h
    exact ev_ret hq rfl rfl ⟨rfl, rfl, rfl⟩
  · refine gv_n hq 3 (S' := (15, [some (.ref 113), some (.long l1), none, some (.int l3), some (.int l4)], [.long l1, .int l3, .ref 113], D, E)) rfl ?_
    refine gv_ls hq rfl rfl h 16 rfl (fun h => ?_)
    refine gv_n hq 2 (S' := (6, [some (.ref 113), some (.long l1), none, some (.int (l3 + (nI 1))), some (.int l4)], [], D, (sE E 113 (l3).toNatClampNeg l1))) rfl ?_
    exact gv_w (K6 _ _ _ _ _ h) (And.intro rfl (And.intro rfl (And.intro rfl (And.intro rfl trivial))))
def g_Arrays_fill2_113_6 (F : Nat) : Nat → Int64 → Int32 → Int32 → mx_E → Option (mx_E) := it (fun k6 => b_Arrays_fill2_113_6 F k6) (fun _ _ _ _ => none)
set_option maxRecDepth 100000 in
set_option maxHeartbeats 4000000 in
theorem t_Arrays_fill2_113_6 (X : ev_X) (F : Nat) (d : Nat) (D : mx_D)  : ∀ (n : Nat) (l1 : Int64) (l3 : Int32) (l4 : Int32) (E : mx_E) (v : mx_E), g_Arrays_fill2_113_6 F n l1 l3 l4 E = some v → ev X d 334 (6, [some (.ref 113), some (.long l1), none, some (.int l3), some (.int l4)], [], D, E) (qR none D v) := by
  intro n
  induction n with
  | zero => intro l1 l3 l4 E v h; cases h
  | succ n ih => intro l1 l3 l4 E v h; exact tb_Arrays_fill2_113_6 X F d D (g_Arrays_fill2_113_6 F n) ih l1 l3 l4 E v h
def g_Arrays_fill2_113 (F : Nat) (a1 : Int64) (E : mx_E) : Option (mx_E) := (g_Arrays_fill2_113_6 F F a1 (nI 0) (nI 60) E)
set_option maxRecDepth 100000 in
set_option maxHeartbeats 4000000 in
theorem t_Arrays_fill2_113 (X : ev_X) (F : Nat) (d : Nat) (D : mx_D) (a1 : Int64) (E : mx_E) (v : mx_E) (h : g_Arrays_fill2_113 F a1 E = some v) : ev X d 334 (0, [some (.ref 113), some (.long a1), none, none, none], [], D, E) (qR none D v) := by
  have hq : kq_m 334 = some kq_q334 := rfl
  unfold g_Arrays_fill2_113 at h
  refine gv_n hq 5 (S' := (6, [some (.ref 113), some (.long a1), none, some (.int (nI 0)), some (.int (nI 60))], [], D, E)) rfl ?_
  exact gv_w (t_Arrays_fill2_113_6 X F d D F _ _ _ _ _ h) (And.intro rfl (And.intro rfl (And.intro rfl (And.intro rfl trivial))))
def g_Row_begin_112 (F : Nat) (a1 : Int32) (a2 : Int32) (D : mx_D) (E : mx_E) : Option (mx_D × mx_E) := (Option.bind (g_Arrays_fill2_113 F (lN 0) E) (fun r1 => (some ((sD (sD (sD D 112 1 (nI 1)) 112 2 a1) 112 3 a2), r1))))
set_option maxRecDepth 100000 in
set_option maxHeartbeats 4000000 in
theorem t_Row_begin_112 (X : ev_X) (F : Nat) (d : Nat) (hd : 1 ≤ d + 1) (a1 : Int32) (a2 : Int32) (D : mx_D) (E : mx_E) (v : mx_D × mx_E) (h : g_Row_begin_112 F a1 a2 D E = some v) : ev X (d + 1) 79 (0, [some (.ref 112), some (.int a1), some (.int a2)], [], D, E) (qR none v.1 v.2) := by
  have hq : kq_m 79 = some kq_q79 := rfl
  unfold g_Row_begin_112 at h
  refine gv_n hq 12 (S' := (20, [some (.ref 112), some (.int a1), some (.int a2)], [.long (lN 0), .ref 113], (sD (sD (sD D 112 1 (nI 1)) 112 2 a1) 112 3 a2), E)) rfl ?_
  obtain ⟨r1, h1, h⟩ := Option.bind_eq_some_iff.mp h
  refine gv_d hq rfl rfl rfl rfl rfl ((t_Arrays_fill2_113 X F d (sD (sD (sD D 112 1 (nI 1)) 112 2 a1) 112 3 a2) _ _ _ h1)) (S' := (23, [some (.ref 112), some (.int a1), some (.int a2)], [], (sD (sD (sD D 112 1 (nI 1)) 112 2 a1) 112 3 a2), r1)) rfl ?_
  cases h
  exact ev_ret hq rfl rfl ⟨rfl, rfl, rfl⟩
def b_Arrays_fill2_115_6 (F : Nat) (k6 : Int64 → Int32 → Int32 → mx_E → Option (mx_E)) (l1 : Int64) (l3 : Int32) (l4 : Int32) (E : mx_E) : Option (mx_E) := (if l4 ≤ l3 then (some E) else (rk 60 l3 (k6 l1 (l3 + (nI 1)) l4 (sE E 115 (l3).toNatClampNeg l1))))
set_option maxRecDepth 100000 in
set_option maxHeartbeats 4000000 in
theorem tb_Arrays_fill2_115_6 (X : ev_X) (F : Nat) (d : Nat) (D : mx_D) (k6 : Int64 → Int32 → Int32 → mx_E → Option (mx_E)) (K6 : ∀ (l1 : Int64) (l3 : Int32) (l4 : Int32) (E : mx_E) (v : mx_E), k6 l1 l3 l4 E = some v → ev X d 334 (6, [some (.ref 115), some (.long l1), none, some (.int l3), some (.int l4)], [], D, E) (qR none D v)) (l1 : Int64) (l3 : Int32) (l4 : Int32) (E : mx_E) (v : mx_E) (h : b_Arrays_fill2_115_6 F k6 l1 l3 l4 E = some v) : ev X d 334 (6, [some (.ref 115), some (.long l1), none, some (.int l3), some (.int l4)], [], D, E) (qR none D v) := by
  have hq : kq_m 334 = some kq_q334 := rfl
  unfold b_Arrays_fill2_115_6 at h
  refine gv_n hq 2 (S' := (9, [some (.ref 115), some (.long l1), none, some (.int l3), some (.int l4)], [.int l4, .int l3], D, E)) rfl ?_
  refine gv_b hq rfl h 22 12 rfl rfl rfl (fun h => ?_) (fun h => ?_)
  · cases h
    exact ev_ret hq rfl rfl ⟨rfl, rfl, rfl⟩
  · refine gv_n hq 3 (S' := (15, [some (.ref 115), some (.long l1), none, some (.int l3), some (.int l4)], [.long l1, .int l3, .ref 115], D, E)) rfl ?_
    refine gv_ls hq rfl rfl h 16 rfl (fun h => ?_)
    refine gv_n hq 2 (S' := (6, [some (.ref 115), some (.long l1), none, some (.int (l3 + (nI 1))), some (.int l4)], [], D, (sE E 115 (l3).toNatClampNeg l1))) rfl ?_
    exact gv_w (K6 _ _ _ _ _ h) (And.intro rfl (And.intro rfl (And.intro rfl (And.intro rfl trivial))))
def g_Arrays_fill2_115_6 (F : Nat) : Nat → Int64 → Int32 → Int32 → mx_E → Option (mx_E) := it (fun k6 => b_Arrays_fill2_115_6 F k6) (fun _ _ _ _ => none)
set_option maxRecDepth 100000 in
set_option maxHeartbeats 4000000 in
theorem t_Arrays_fill2_115_6 (X : ev_X) (F : Nat) (d : Nat) (D : mx_D)  : ∀ (n : Nat) (l1 : Int64) (l3 : Int32) (l4 : Int32) (E : mx_E) (v : mx_E), g_Arrays_fill2_115_6 F n l1 l3 l4 E = some v → ev X d 334 (6, [some (.ref 115), some (.long l1), none, some (.int l3), some (.int l4)], [], D, E) (qR none D v) := by
  intro n
  induction n with
  | zero => intro l1 l3 l4 E v h; cases h
  | succ n ih => intro l1 l3 l4 E v h; exact tb_Arrays_fill2_115_6 X F d D (g_Arrays_fill2_115_6 F n) ih l1 l3 l4 E v h
def g_Arrays_fill2_115 (F : Nat) (a1 : Int64) (E : mx_E) : Option (mx_E) := (g_Arrays_fill2_115_6 F F a1 (nI 0) (nI 60) E)
set_option maxRecDepth 100000 in
set_option maxHeartbeats 4000000 in
theorem t_Arrays_fill2_115 (X : ev_X) (F : Nat) (d : Nat) (D : mx_D) (a1 : Int64) (E : mx_E) (v : mx_E) (h : g_Arrays_fill2_115 F a1 E = some v) : ev X d 334 (0, [some (.ref 115), some (.long a1), none, none, none], [], D, E) (qR none D v) := by
  have hq : kq_m 334 = some kq_q334 := rfl
  unfold g_Arrays_fill2_115 at h
  refine gv_n hq 5 (S' := (6, [some (.ref 115), some (.long a1), none, some (.int (nI 0)), some (.int (nI 60))], [], D, E)) rfl ?_
  exact gv_w (t_Arrays_fill2_115_6 X F d D F _ _ _ _ _ h) (And.intro rfl (And.intro rfl (And.intro rfl (And.intro rfl trivial))))
def g_Row_begin_114 (F : Nat) (a1 : Int32) (a2 : Int32) (D : mx_D) (E : mx_E) : Option (mx_D × mx_E) := (Option.bind (g_Arrays_fill2_115 F (lN 0) E) (fun r1 => (some ((sD (sD (sD D 114 1 (nI 1)) 114 2 a1) 114 3 a2), r1))))
set_option maxRecDepth 100000 in
set_option maxHeartbeats 4000000 in
theorem t_Row_begin_114 (X : ev_X) (F : Nat) (d : Nat) (hd : 1 ≤ d + 1) (a1 : Int32) (a2 : Int32) (D : mx_D) (E : mx_E) (v : mx_D × mx_E) (h : g_Row_begin_114 F a1 a2 D E = some v) : ev X (d + 1) 79 (0, [some (.ref 114), some (.int a1), some (.int a2)], [], D, E) (qR none v.1 v.2) := by
  have hq : kq_m 79 = some kq_q79 := rfl
  unfold g_Row_begin_114 at h
  refine gv_n hq 12 (S' := (20, [some (.ref 114), some (.int a1), some (.int a2)], [.long (lN 0), .ref 115], (sD (sD (sD D 114 1 (nI 1)) 114 2 a1) 114 3 a2), E)) rfl ?_
  obtain ⟨r1, h1, h⟩ := Option.bind_eq_some_iff.mp h
  refine gv_d hq rfl rfl rfl rfl rfl ((t_Arrays_fill2_115 X F d (sD (sD (sD D 114 1 (nI 1)) 114 2 a1) 114 3 a2) _ _ _ h1)) (S' := (23, [some (.ref 114), some (.int a1), some (.int a2)], [], (sD (sD (sD D 114 1 (nI 1)) 114 2 a1) 114 3 a2), r1)) rfl ?_
  cases h
  exact ev_ret hq rfl rfl ⟨rfl, rfl, rfl⟩
def g_X_row (F : Nat) (a1 : Int32) (a2 : Int32) (a3 : Int32) (D : mx_D) (E : mx_E) : Option (Int32 × mx_D × mx_E) := (if (g_X_isSlot a1) = 0 then (some ((-2 : Int32), D, E)) else (if a2 < 0 then (some ((-2 : Int32), D, E)) else (if (nI 4) ≤ a2 then (some ((-2 : Int32), D, E)) else (if a3 ≤ (nI 60) then (if 0 ≤ a3 then (if a1 = (nI 0) then (Option.bind (g_Row_begin_108 F a2 a3 D E) (fun r1 => (some ((nI 0), r1.1, r1.2)))) else (if a1 = (nI 1) then (Option.bind (g_Row_begin_110 F a2 a3 D E) (fun r2 => (some ((nI 0), r2.1, r2.2)))) else (if a1 = (nI 2) then (Option.bind (g_Row_begin_112 F a2 a3 D E) (fun r3 => (some ((nI 0), r3.1, r3.2)))) else (if a1 = (nI 3) then (Option.bind (g_Row_begin_114 F a2 a3 D E) (fun r4 => (some ((nI 0), r4.1, r4.2)))) else none)))) else (some ((-3 : Int32), D, E))) else (some ((-2 : Int32), D, E))))))
set_option maxRecDepth 100000 in
set_option maxHeartbeats 4000000 in
theorem t_X_row (X : ev_X) (F : Nat) (d : Nat) (hd : 2 ≤ d + 1) (a1 : Int32) (a2 : Int32) (a3 : Int32) (D : mx_D) (E : mx_E) (v : Int32 × mx_D × mx_E) (h : g_X_row F a1 a2 a3 D E = some v) : ev X (d + 1) 178 (0, [some (.ref 0), some (.int a1), some (.int a2), some (.int a3)], [], D, E) (qR (some (.int v.1)) v.2.1 v.2.2) := by
  have hq : kq_m 178 = some kq_q178 := rfl
  unfold g_X_row at h
  refine gv_n hq 1 (S' := (1, [some (.ref 0), some (.int a1), some (.int a2), some (.int a3)], [.int a1], D, E)) rfl ?_
  refine gv_d hq rfl rfl rfl rfl rfl ((t_X_isSlot X d D E _ _ rfl)) (S' := (4, [some (.ref 0), some (.int a1), some (.int a2), some (.int a3)], [.int (g_X_isSlot a1)], D, E)) rfl ?_
  refine gv_b hq rfl h 22 7 rfl rfl rfl (fun h => ?_) (fun h => ?_)
  · refine gv_n hq 1 (S' := (24, [some (.ref 0), some (.int a1), some (.int a2), some (.int a3)], [.int (-2 : Int32)], D, E)) rfl ?_
    cases h
    exact ev_ret hq rfl rfl ⟨rfl, rfl, rfl⟩
  · refine gv_n hq 1 (S' := (8, [some (.ref 0), some (.int a1), some (.int a2), some (.int a3)], [.int a2], D, E)) rfl ?_
    refine gv_b hq rfl h 22 11 rfl rfl rfl (fun h => ?_) (fun h => ?_)
    · refine gv_n hq 1 (S' := (24, [some (.ref 0), some (.int a1), some (.int a2), some (.int a3)], [.int (-2 : Int32)], D, E)) rfl ?_
      cases h
      exact ev_ret hq rfl rfl ⟨rfl, rfl, rfl⟩
    · refine gv_n hq 2 (S' := (13, [some (.ref 0), some (.int a1), some (.int a2), some (.int a3)], [.int (nI 4), .int a2], D, E)) rfl ?_
      refine gv_b hq rfl h 22 16 rfl rfl rfl (fun h => ?_) (fun h => ?_)
      · refine gv_n hq 1 (S' := (24, [some (.ref 0), some (.int a1), some (.int a2), some (.int a3)], [.int (-2 : Int32)], D, E)) rfl ?_
        cases h
        exact ev_ret hq rfl rfl ⟨rfl, rfl, rfl⟩
      · refine gv_n hq 2 (S' := (19, [some (.ref 0), some (.int a1), some (.int a2), some (.int a3)], [.int (nI 60), .int a3], D, E)) rfl ?_
        refine gv_b hq rfl h 25 22 rfl rfl rfl (fun h => ?_) (fun h => ?_)
        · refine gv_n hq 1 (S' := (26, [some (.ref 0), some (.int a1), some (.int a2), some (.int a3)], [.int a3], D, E)) rfl ?_
          refine gv_b hq rfl h 32 29 rfl rfl rfl (fun h => ?_) (fun h => ?_)
          · refine gv_n hq 3 (S' := (37, [some (.ref 0), some (.int a1), some (.int a2), some (.int a3)], [.int a1, .ref 62], D, E)) rfl ?_
            refine gv_if h (fun c0 h => ?_) (fun c0 h => ?_)
            · refine ev_ins hq rfl (S' := (38, [some (.ref 0), some (.int a1), some (.int a2), some (.int a3)], [.ref 108], D, E)) (gv_sw (fun z => ((37, [some (.ref 0), some (.int a1), some (.int a2), some (.int a3)], .int z :: [.ref 62], D, E) : mx_S)) c0 rfl) ?_
              refine gv_n hq 2 (S' := (40, [some (.ref 0), some (.int a1), some (.int a2), some (.int a3)], [.int a3, .int a2, .ref 108], D, E)) rfl ?_
              obtain ⟨r1, h1, h⟩ := Option.bind_eq_some_iff.mp h
              refine gv_d hq rfl rfl rfl rfl rfl (gv_dd (by omega) (t_Row_begin_108 X F (d - 1) (by omega) _ _ _ _ _ h1)) (S' := (43, [some (.ref 0), some (.int a1), some (.int a2), some (.int a3)], [], r1.1, r1.2)) rfl ?_
              refine gv_n hq 1 (S' := (44, [some (.ref 0), some (.int a1), some (.int a2), some (.int a3)], [.int (nI 0)], r1.1, r1.2)) rfl ?_
              cases h
              exact ev_ret hq rfl rfl ⟨rfl, rfl, rfl⟩
            · refine gv_if h (fun c1 h => ?_) (fun c1 h => ?_)
              · refine ev_ins hq rfl (S' := (38, [some (.ref 0), some (.int a1), some (.int a2), some (.int a3)], [.ref 110], D, E)) (gv_sw (fun z => ((37, [some (.ref 0), some (.int a1), some (.int a2), some (.int a3)], .int z :: [.ref 62], D, E) : mx_S)) c1 rfl) ?_
                refine gv_n hq 2 (S' := (40, [some (.ref 0), some (.int a1), some (.int a2), some (.int a3)], [.int a3, .int a2, .ref 110], D, E)) rfl ?_
                obtain ⟨r2, h1, h⟩ := Option.bind_eq_some_iff.mp h
                refine gv_d hq rfl rfl rfl rfl rfl (gv_dd (by omega) (t_Row_begin_110 X F (d - 1) (by omega) _ _ _ _ _ h1)) (S' := (43, [some (.ref 0), some (.int a1), some (.int a2), some (.int a3)], [], r2.1, r2.2)) rfl ?_
                refine gv_n hq 1 (S' := (44, [some (.ref 0), some (.int a1), some (.int a2), some (.int a3)], [.int (nI 0)], r2.1, r2.2)) rfl ?_
                cases h
                exact ev_ret hq rfl rfl ⟨rfl, rfl, rfl⟩
              · refine gv_if h (fun c2 h => ?_) (fun c2 h => ?_)
                · refine ev_ins hq rfl (S' := (38, [some (.ref 0), some (.int a1), some (.int a2), some (.int a3)], [.ref 112], D, E)) (gv_sw (fun z => ((37, [some (.ref 0), some (.int a1), some (.int a2), some (.int a3)], .int z :: [.ref 62], D, E) : mx_S)) c2 rfl) ?_
                  refine gv_n hq 2 (S' := (40, [some (.ref 0), some (.int a1), some (.int a2), some (.int a3)], [.int a3, .int a2, .ref 112], D, E)) rfl ?_
                  obtain ⟨r3, h1, h⟩ := Option.bind_eq_some_iff.mp h
                  refine gv_d hq rfl rfl rfl rfl rfl (gv_dd (by omega) (t_Row_begin_112 X F (d - 1) (by omega) _ _ _ _ _ h1)) (S' := (43, [some (.ref 0), some (.int a1), some (.int a2), some (.int a3)], [], r3.1, r3.2)) rfl ?_
                  refine gv_n hq 1 (S' := (44, [some (.ref 0), some (.int a1), some (.int a2), some (.int a3)], [.int (nI 0)], r3.1, r3.2)) rfl ?_
                  cases h
                  exact ev_ret hq rfl rfl ⟨rfl, rfl, rfl⟩
                · refine gv_if h (fun c3 h => ?_) (fun c3 h => ?_)
                  · refine ev_ins hq rfl (S' := (38, [some (.ref 0), some (.int a1), some (.int a2), some (.int a3)], [.ref 114], D, E)) (gv_sw (fun z => ((37, [some (.ref 0), some (.int a1), some (.int a2), some (.int a3)], .int z :: [.ref 62], D, E) : mx_S)) c3 rfl) ?_
                    refine gv_n hq 2 (S' := (40, [some (.ref 0), some (.int a1), some (.int a2), some (.int a3)], [.int a3, .int a2, .ref 114], D, E)) rfl ?_
                    obtain ⟨r4, h1, h⟩ := Option.bind_eq_some_iff.mp h
                    refine gv_d hq rfl rfl rfl rfl rfl (gv_dd (by omega) (t_Row_begin_114 X F (d - 1) (by omega) _ _ _ _ _ h1)) (S' := (43, [some (.ref 0), some (.int a1), some (.int a2), some (.int a3)], [], r4.1, r4.2)) rfl ?_
                    refine gv_n hq 1 (S' := (44, [some (.ref 0), some (.int a1), some (.int a2), some (.int a3)], [.int (nI 0)], r4.1, r4.2)) rfl ?_
                    cases h
                    exact ev_ret hq rfl rfl ⟨rfl, rfl, rfl⟩
                  · cases h
          · refine gv_n hq 1 (S' := (31, [some (.ref 0), some (.int a1), some (.int a2), some (.int a3)], [.int (-3 : Int32)], D, E)) rfl ?_
            cases h
            exact ev_ret hq rfl rfl ⟨rfl, rfl, rfl⟩
        · refine gv_n hq 1 (S' := (24, [some (.ref 0), some (.int a1), some (.int a2), some (.int a3)], [.int (-2 : Int32)], D, E)) rfl ?_
          cases h
          exact ev_ret hq rfl rfl ⟨rfl, rfl, rfl⟩
def b_M_row_52 (F : Nat) (k52 : Int32 → Int32 → mx_D → mx_E → Option (Int32 × mx_D × mx_E)) (l1 : Int32) (l4 : Int32) (D : mx_D) (E : mx_E) : Option (Int32 × mx_D × mx_E) := (if (nI 60) ≤ l4 then (some ((nI 0), D, E)) else (rk 240 (((nI 60) * l1) + l4) (k52 l1 (l4 + (nI 1)) D (sE E 139 ((((nI 60) * l1) + l4)).toNatClampNeg (lN 0)))))
set_option maxRecDepth 100000 in
set_option maxHeartbeats 4000000 in
theorem tb_M_row_52 (X : ev_X) (F : Nat) (d : Nat) (hd : 2 ≤ d + 1) (k52 : Int32 → Int32 → mx_D → mx_E → Option (Int32 × mx_D × mx_E)) (K52 : ∀ (l1 : Int32) (l4 : Int32) (D : mx_D) (E : mx_E) (v : Int32 × mx_D × mx_E), k52 l1 l4 D E = some v → ev X (d + 1) 328 (52, [some (.ref 116), some (.int l1), none, none, some (.int l4)], [], D, E) (qR (some (.int v.1)) v.2.1 v.2.2)) (l1 : Int32) (l4 : Int32) (D : mx_D) (E : mx_E) (v : Int32 × mx_D × mx_E) (h : b_M_row_52 F k52 l1 l4 D E = some v) : ev X (d + 1) 328 (52, [some (.ref 116), some (.int l1), none, none, some (.int l4)], [], D, E) (qR (some (.int v.1)) v.2.1 v.2.2) := by
  have hq : kq_m 328 = some kq_q328 := rfl
  unfold b_M_row_52 at h
  refine gv_n hq 2 (S' := (56, [some (.ref 116), some (.int l1), none, none, some (.int l4)], [.int (nI 60), .int l4], D, E)) rfl ?_
  refine gv_b hq rfl h 78 59 rfl rfl rfl (fun h => ?_) (fun h => ?_)
  · refine gv_n hq 1 (S' := (79, [some (.ref 116), some (.int l1), none, none, some (.int l4)], [.int (nI 0)], D, E)) rfl ?_
    cases h
    exact ev_ret hq rfl rfl ⟨rfl, rfl, rfl⟩
  · refine gv_n hq 8 (S' := (71, [some (.ref 116), some (.int l1), none, none, some (.int l4)], [.long (lN 0), .int (((nI 60) * l1) + l4), .ref 139], D, E)) rfl ?_
    refine gv_ls hq rfl rfl h 72 rfl (fun h => ?_)
    refine gv_n hq 2 (S' := (52, [some (.ref 116), some (.int l1), none, none, some (.int (l4 + (nI 1)))], [], D, (sE E 139 ((((nI 60) * l1) + l4)).toNatClampNeg (lN 0)))) rfl ?_
    exact gv_w (K52 _ _ _ _ _ h) (And.intro rfl (And.intro rfl (And.intro rfl trivial)))
def g_M_row_52 (F : Nat) : Nat → Int32 → Int32 → mx_D → mx_E → Option (Int32 × mx_D × mx_E) := it (fun k52 => b_M_row_52 F k52) (fun _ _ _ _ => none)
set_option maxRecDepth 100000 in
set_option maxHeartbeats 4000000 in
theorem t_M_row_52 (X : ev_X) (F : Nat) (d : Nat) (hd : 2 ≤ d + 1)  : ∀ (n : Nat) (l1 : Int32) (l4 : Int32) (D : mx_D) (E : mx_E) (v : Int32 × mx_D × mx_E), g_M_row_52 F n l1 l4 D E = some v → ev X (d + 1) 328 (52, [some (.ref 116), some (.int l1), none, none, some (.int l4)], [], D, E) (qR (some (.int v.1)) v.2.1 v.2.2) := by
  intro n
  induction n with
  | zero => intro l1 l4 D E v h; cases h
  | succ n ih => intro l1 l4 D E v h; exact tb_M_row_52 X F d hd (g_M_row_52 F n) ih l1 l4 D E v h
def g_M_row (F : Nat) (a1 : Int32) (a2 : Int32) (a3 : Int32) (D : mx_D) (E : mx_E) : Option (Int32 × mx_D × mx_E) := (if (g_M_isSlot a1) = 0 then (some ((-2 : Int32), D, E)) else (if (g_M_in ((a2).toInt64) (lN 0) (3 : Int64)) = 0 then (some ((-2 : Int32), D, E)) else (if a3 ≤ (nI 60) then (if 0 ≤ a3 then (rk 4 a1 (rk 4 a1 (g_M_row_52 F F a1 (nI 0) (sD (sD D 137 (a1).toNatClampNeg a3) 138 (a1).toNatClampNeg a2) E))) else (some ((-3 : Int32), D, E))) else (some ((-2 : Int32), D, E)))))
set_option maxRecDepth 100000 in
set_option maxHeartbeats 4000000 in
theorem t_M_row (X : ev_X) (F : Nat) (d : Nat) (hd : 2 ≤ d + 1) (a1 : Int32) (a2 : Int32) (a3 : Int32) (D : mx_D) (E : mx_E) (v : Int32 × mx_D × mx_E) (h : g_M_row F a1 a2 a3 D E = some v) : ev X (d + 1) 328 (0, [some (.ref 116), some (.int a1), some (.int a2), some (.int a3), none], [], D, E) (qR (some (.int v.1)) v.2.1 v.2.2) := by
  have hq : kq_m 328 = some kq_q328 := rfl
  unfold g_M_row at h
  refine gv_n hq 1 (S' := (1, [some (.ref 116), some (.int a1), some (.int a2), some (.int a3), none], [.int a1], D, E)) rfl ?_
  refine gv_d hq rfl rfl rfl rfl rfl (gv_dd (by omega) (t_M_isSlot X (d - 1) (by omega) D E _ _ rfl)) (S' := (4, [some (.ref 116), some (.int a1), some (.int a2), some (.int a3), none], [.int (g_M_isSlot a1)], D, E)) rfl ?_
  refine gv_b hq rfl h 25 7 rfl rfl rfl (fun h => ?_) (fun h => ?_)
  · refine gv_n hq 1 (S' := (27, [some (.ref 116), some (.int a1), some (.int a2), some (.int a3), none], [.int (-2 : Int32)], D, E)) rfl ?_
    cases h
    exact ev_ret hq rfl rfl ⟨rfl, rfl, rfl⟩
  · refine gv_n hq 4 (S' := (13, [some (.ref 116), some (.int a1), some (.int a2), some (.int a3), none], [.long (3 : Int64), .long (lN 0), .long ((a2).toInt64)], D, E)) rfl ?_
    refine gv_d hq rfl rfl rfl rfl rfl ((t_M_in X d D E _ _ _ _ rfl)) (S' := (16, [some (.ref 116), some (.int a1), some (.int a2), some (.int a3), none], [.int (g_M_in ((a2).toInt64) (lN 0) (3 : Int64))], D, E)) rfl ?_
    refine gv_b hq rfl h 25 19 rfl rfl rfl (fun h => ?_) (fun h => ?_)
    · refine gv_n hq 1 (S' := (27, [some (.ref 116), some (.int a1), some (.int a2), some (.int a3), none], [.int (-2 : Int32)], D, E)) rfl ?_
      cases h
      exact ev_ret hq rfl rfl ⟨rfl, rfl, rfl⟩
    · refine gv_n hq 2 (S' := (22, [some (.ref 116), some (.int a1), some (.int a2), some (.int a3), none], [.int (nI 60), .int a3], D, E)) rfl ?_
      refine gv_b hq rfl h 28 25 rfl rfl rfl (fun h => ?_) (fun h => ?_)
      · refine gv_n hq 1 (S' := (29, [some (.ref 116), some (.int a1), some (.int a2), some (.int a3), none], [.int a3], D, E)) rfl ?_
        refine gv_b hq rfl h 35 32 rfl rfl rfl (fun h => ?_) (fun h => ?_)
        · refine gv_n hq 4 (S' := (41, [some (.ref 116), some (.int a1), some (.int a2), some (.int a3), none], [.int a3, .int a1, .ref 137], D, E)) rfl ?_
          refine gv_is hq rfl rfl h 42 rfl (fun h => ?_)
          refine gv_n hq 4 (S' := (48, [some (.ref 116), some (.int a1), some (.int a2), some (.int a3), none], [.int a2, .int a1, .ref 138], (sD D 137 (a1).toNatClampNeg a3), E)) rfl ?_
          refine gv_is hq rfl rfl h 49 rfl (fun h => ?_)
          refine gv_n hq 2 (S' := (52, [some (.ref 116), some (.int a1), some (.int a2), some (.int a3), some (.int (nI 0))], [], (sD (sD D 137 (a1).toNatClampNeg a3) 138 (a1).toNatClampNeg a2), E)) rfl ?_
          exact gv_w (t_M_row_52 X F d hd F _ _ _ _ _ h) (And.intro rfl (And.intro rfl (And.intro rfl trivial)))
        · refine gv_n hq 1 (S' := (34, [some (.ref 116), some (.int a1), some (.int a2), some (.int a3), none], [.int (-3 : Int32)], D, E)) rfl ?_
          cases h
          exact ev_ret hq rfl rfl ⟨rfl, rfl, rfl⟩
      · refine gv_n hq 1 (S' := (27, [some (.ref 116), some (.int a1), some (.int a2), some (.int a3), none], [.int (-2 : Int32)], D, E)) rfl ?_
        cases h
        exact ev_ret hq rfl rfl ⟨rfl, rfl, rfl⟩
def g_Row_cutToWidth_108 (D : mx_D) (a1 : Int64) : Int64 := (if (D 108 2) = (nI 0) then ((((((a1).toInt32)).toInt8.toInt32)).toInt64) else (if (D 108 2) = (nI 1) then ((((((a1).toInt32)).toInt16.toInt32)).toInt64) else (if (D 108 2) = (nI 2) then ((((a1).toInt32)).toInt64) else a1)))
set_option maxRecDepth 100000 in
set_option maxHeartbeats 4000000 in
theorem t_Row_cutToWidth_108 (X : ev_X) (d : Nat) (D : mx_D) (E : mx_E) (a1 : Int64) (v : Int64) (h : g_Row_cutToWidth_108 D a1 = v) : ev X d 80 (0, [some (.ref 108), some (.long a1), none], [], D, E) (qR (some (.long v)) D E) := by
  have hq : kq_m 80 = some kq_q80 := rfl
  unfold g_Row_cutToWidth_108 at h
  refine gv_n hq 2 (S' := (4, [some (.ref 108), some (.long a1), none], [.int (D 108 2)], D, E)) rfl ?_
  refine gv_if h (fun c0 h => ?_) (fun c0 h => ?_)
  · refine ev_ins hq rfl (S' := (32, [some (.ref 108), some (.long a1), none], [], D, E)) (gv_sw (fun z => ((4, [some (.ref 108), some (.long a1), none], .int z :: [], D, E) : mx_S)) c0 rfl) ?_
    refine gv_n hq 4 (S' := (36, [some (.ref 108), some (.long a1), none], [.long ((((((a1).toInt32)).toInt8.toInt32)).toInt64)], D, E)) rfl ?_
    subst h
    exact ev_ret hq rfl rfl ⟨rfl, rfl, rfl⟩
  refine gv_if h (fun c1 h => ?_) (fun c1 h => ?_)
  · refine ev_ins hq rfl (S' := (37, [some (.ref 108), some (.long a1), none], [], D, E)) (gv_sw (fun z => ((4, [some (.ref 108), some (.long a1), none], .int z :: [], D, E) : mx_S)) c1 rfl) ?_
    refine gv_n hq 4 (S' := (41, [some (.ref 108), some (.long a1), none], [.long ((((((a1).toInt32)).toInt16.toInt32)).toInt64)], D, E)) rfl ?_
    subst h
    exact ev_ret hq rfl rfl ⟨rfl, rfl, rfl⟩
  refine gv_if h (fun c2 h => ?_) (fun c2 h => ?_)
  · refine ev_ins hq rfl (S' := (42, [some (.ref 108), some (.long a1), none], [], D, E)) (gv_sw (fun z => ((4, [some (.ref 108), some (.long a1), none], .int z :: [], D, E) : mx_S)) c2 rfl) ?_
    refine gv_n hq 3 (S' := (45, [some (.ref 108), some (.long a1), none], [.long ((((a1).toInt32)).toInt64)], D, E)) rfl ?_
    subst h
    exact ev_ret hq rfl rfl ⟨rfl, rfl, rfl⟩
  refine ev_ins hq rfl (S' := (46, [some (.ref 108), some (.long a1), none], [], D, E)) (gv_swd (x := (D 108 2)) (n := 3) (fun z => ((4, [some (.ref 108), some (.long a1), none], .int z :: [], D, E) : mx_S)) ⟨⟨⟨trivial, c0⟩, c1⟩, c2⟩ (m := 2) rfl rfl rfl) ?_
  refine gv_n hq 1 (S' := (47, [some (.ref 108), some (.long a1), none], [.long a1], D, E)) rfl ?_
  subst h
  exact ev_ret hq rfl rfl ⟨rfl, rfl, rfl⟩
def g_Row_cutToWidth_110 (D : mx_D) (a1 : Int64) : Int64 := (if (D 110 2) = (nI 0) then ((((((a1).toInt32)).toInt8.toInt32)).toInt64) else (if (D 110 2) = (nI 1) then ((((((a1).toInt32)).toInt16.toInt32)).toInt64) else (if (D 110 2) = (nI 2) then ((((a1).toInt32)).toInt64) else a1)))
set_option maxRecDepth 100000 in
set_option maxHeartbeats 4000000 in
theorem t_Row_cutToWidth_110 (X : ev_X) (d : Nat) (D : mx_D) (E : mx_E) (a1 : Int64) (v : Int64) (h : g_Row_cutToWidth_110 D a1 = v) : ev X d 80 (0, [some (.ref 110), some (.long a1), none], [], D, E) (qR (some (.long v)) D E) := by
  have hq : kq_m 80 = some kq_q80 := rfl
  unfold g_Row_cutToWidth_110 at h
  refine gv_n hq 2 (S' := (4, [some (.ref 110), some (.long a1), none], [.int (D 110 2)], D, E)) rfl ?_
  refine gv_if h (fun c0 h => ?_) (fun c0 h => ?_)
  · refine ev_ins hq rfl (S' := (32, [some (.ref 110), some (.long a1), none], [], D, E)) (gv_sw (fun z => ((4, [some (.ref 110), some (.long a1), none], .int z :: [], D, E) : mx_S)) c0 rfl) ?_
    refine gv_n hq 4 (S' := (36, [some (.ref 110), some (.long a1), none], [.long ((((((a1).toInt32)).toInt8.toInt32)).toInt64)], D, E)) rfl ?_
    subst h
    exact ev_ret hq rfl rfl ⟨rfl, rfl, rfl⟩
  refine gv_if h (fun c1 h => ?_) (fun c1 h => ?_)
  · refine ev_ins hq rfl (S' := (37, [some (.ref 110), some (.long a1), none], [], D, E)) (gv_sw (fun z => ((4, [some (.ref 110), some (.long a1), none], .int z :: [], D, E) : mx_S)) c1 rfl) ?_
    refine gv_n hq 4 (S' := (41, [some (.ref 110), some (.long a1), none], [.long ((((((a1).toInt32)).toInt16.toInt32)).toInt64)], D, E)) rfl ?_
    subst h
    exact ev_ret hq rfl rfl ⟨rfl, rfl, rfl⟩
  refine gv_if h (fun c2 h => ?_) (fun c2 h => ?_)
  · refine ev_ins hq rfl (S' := (42, [some (.ref 110), some (.long a1), none], [], D, E)) (gv_sw (fun z => ((4, [some (.ref 110), some (.long a1), none], .int z :: [], D, E) : mx_S)) c2 rfl) ?_
    refine gv_n hq 3 (S' := (45, [some (.ref 110), some (.long a1), none], [.long ((((a1).toInt32)).toInt64)], D, E)) rfl ?_
    subst h
    exact ev_ret hq rfl rfl ⟨rfl, rfl, rfl⟩
  refine ev_ins hq rfl (S' := (46, [some (.ref 110), some (.long a1), none], [], D, E)) (gv_swd (x := (D 110 2)) (n := 3) (fun z => ((4, [some (.ref 110), some (.long a1), none], .int z :: [], D, E) : mx_S)) ⟨⟨⟨trivial, c0⟩, c1⟩, c2⟩ (m := 2) rfl rfl rfl) ?_
  refine gv_n hq 1 (S' := (47, [some (.ref 110), some (.long a1), none], [.long a1], D, E)) rfl ?_
  subst h
  exact ev_ret hq rfl rfl ⟨rfl, rfl, rfl⟩
def g_Row_cutToWidth_112 (D : mx_D) (a1 : Int64) : Int64 := (if (D 112 2) = (nI 0) then ((((((a1).toInt32)).toInt8.toInt32)).toInt64) else (if (D 112 2) = (nI 1) then ((((((a1).toInt32)).toInt16.toInt32)).toInt64) else (if (D 112 2) = (nI 2) then ((((a1).toInt32)).toInt64) else a1)))
set_option maxRecDepth 100000 in
set_option maxHeartbeats 4000000 in
theorem t_Row_cutToWidth_112 (X : ev_X) (d : Nat) (D : mx_D) (E : mx_E) (a1 : Int64) (v : Int64) (h : g_Row_cutToWidth_112 D a1 = v) : ev X d 80 (0, [some (.ref 112), some (.long a1), none], [], D, E) (qR (some (.long v)) D E) := by
  have hq : kq_m 80 = some kq_q80 := rfl
  unfold g_Row_cutToWidth_112 at h
  refine gv_n hq 2 (S' := (4, [some (.ref 112), some (.long a1), none], [.int (D 112 2)], D, E)) rfl ?_
  refine gv_if h (fun c0 h => ?_) (fun c0 h => ?_)
  · refine ev_ins hq rfl (S' := (32, [some (.ref 112), some (.long a1), none], [], D, E)) (gv_sw (fun z => ((4, [some (.ref 112), some (.long a1), none], .int z :: [], D, E) : mx_S)) c0 rfl) ?_
    refine gv_n hq 4 (S' := (36, [some (.ref 112), some (.long a1), none], [.long ((((((a1).toInt32)).toInt8.toInt32)).toInt64)], D, E)) rfl ?_
    subst h
    exact ev_ret hq rfl rfl ⟨rfl, rfl, rfl⟩
  refine gv_if h (fun c1 h => ?_) (fun c1 h => ?_)
  · refine ev_ins hq rfl (S' := (37, [some (.ref 112), some (.long a1), none], [], D, E)) (gv_sw (fun z => ((4, [some (.ref 112), some (.long a1), none], .int z :: [], D, E) : mx_S)) c1 rfl) ?_
    refine gv_n hq 4 (S' := (41, [some (.ref 112), some (.long a1), none], [.long ((((((a1).toInt32)).toInt16.toInt32)).toInt64)], D, E)) rfl ?_
    subst h
    exact ev_ret hq rfl rfl ⟨rfl, rfl, rfl⟩
  refine gv_if h (fun c2 h => ?_) (fun c2 h => ?_)
  · refine ev_ins hq rfl (S' := (42, [some (.ref 112), some (.long a1), none], [], D, E)) (gv_sw (fun z => ((4, [some (.ref 112), some (.long a1), none], .int z :: [], D, E) : mx_S)) c2 rfl) ?_
    refine gv_n hq 3 (S' := (45, [some (.ref 112), some (.long a1), none], [.long ((((a1).toInt32)).toInt64)], D, E)) rfl ?_
    subst h
    exact ev_ret hq rfl rfl ⟨rfl, rfl, rfl⟩
  refine ev_ins hq rfl (S' := (46, [some (.ref 112), some (.long a1), none], [], D, E)) (gv_swd (x := (D 112 2)) (n := 3) (fun z => ((4, [some (.ref 112), some (.long a1), none], .int z :: [], D, E) : mx_S)) ⟨⟨⟨trivial, c0⟩, c1⟩, c2⟩ (m := 2) rfl rfl rfl) ?_
  refine gv_n hq 1 (S' := (47, [some (.ref 112), some (.long a1), none], [.long a1], D, E)) rfl ?_
  subst h
  exact ev_ret hq rfl rfl ⟨rfl, rfl, rfl⟩
def g_Row_cutToWidth_114 (D : mx_D) (a1 : Int64) : Int64 := (if (D 114 2) = (nI 0) then ((((((a1).toInt32)).toInt8.toInt32)).toInt64) else (if (D 114 2) = (nI 1) then ((((((a1).toInt32)).toInt16.toInt32)).toInt64) else (if (D 114 2) = (nI 2) then ((((a1).toInt32)).toInt64) else a1)))
set_option maxRecDepth 100000 in
set_option maxHeartbeats 4000000 in
theorem t_Row_cutToWidth_114 (X : ev_X) (d : Nat) (D : mx_D) (E : mx_E) (a1 : Int64) (v : Int64) (h : g_Row_cutToWidth_114 D a1 = v) : ev X d 80 (0, [some (.ref 114), some (.long a1), none], [], D, E) (qR (some (.long v)) D E) := by
  have hq : kq_m 80 = some kq_q80 := rfl
  unfold g_Row_cutToWidth_114 at h
  refine gv_n hq 2 (S' := (4, [some (.ref 114), some (.long a1), none], [.int (D 114 2)], D, E)) rfl ?_
  refine gv_if h (fun c0 h => ?_) (fun c0 h => ?_)
  · refine ev_ins hq rfl (S' := (32, [some (.ref 114), some (.long a1), none], [], D, E)) (gv_sw (fun z => ((4, [some (.ref 114), some (.long a1), none], .int z :: [], D, E) : mx_S)) c0 rfl) ?_
    refine gv_n hq 4 (S' := (36, [some (.ref 114), some (.long a1), none], [.long ((((((a1).toInt32)).toInt8.toInt32)).toInt64)], D, E)) rfl ?_
    subst h
    exact ev_ret hq rfl rfl ⟨rfl, rfl, rfl⟩
  refine gv_if h (fun c1 h => ?_) (fun c1 h => ?_)
  · refine ev_ins hq rfl (S' := (37, [some (.ref 114), some (.long a1), none], [], D, E)) (gv_sw (fun z => ((4, [some (.ref 114), some (.long a1), none], .int z :: [], D, E) : mx_S)) c1 rfl) ?_
    refine gv_n hq 4 (S' := (41, [some (.ref 114), some (.long a1), none], [.long ((((((a1).toInt32)).toInt16.toInt32)).toInt64)], D, E)) rfl ?_
    subst h
    exact ev_ret hq rfl rfl ⟨rfl, rfl, rfl⟩
  refine gv_if h (fun c2 h => ?_) (fun c2 h => ?_)
  · refine ev_ins hq rfl (S' := (42, [some (.ref 114), some (.long a1), none], [], D, E)) (gv_sw (fun z => ((4, [some (.ref 114), some (.long a1), none], .int z :: [], D, E) : mx_S)) c2 rfl) ?_
    refine gv_n hq 3 (S' := (45, [some (.ref 114), some (.long a1), none], [.long ((((a1).toInt32)).toInt64)], D, E)) rfl ?_
    subst h
    exact ev_ret hq rfl rfl ⟨rfl, rfl, rfl⟩
  refine ev_ins hq rfl (S' := (46, [some (.ref 114), some (.long a1), none], [], D, E)) (gv_swd (x := (D 114 2)) (n := 3) (fun z => ((4, [some (.ref 114), some (.long a1), none], .int z :: [], D, E) : mx_S)) ⟨⟨⟨trivial, c0⟩, c1⟩, c2⟩ (m := 2) rfl rfl rfl) ?_
  refine gv_n hq 1 (S' := (47, [some (.ref 114), some (.long a1), none], [.long a1], D, E)) rfl ?_
  subst h
  exact ev_ret hq rfl rfl ⟨rfl, rfl, rfl⟩
def g_X_write (D : mx_D) (a1 : Int32) (a2 : Int32) (a3 : Int64) (E : mx_E) : Option (Int32 × mx_E) := (if (g_X_isSlot a1) = 0 then (some ((-2 : Int32), E)) else (if a1 = (nI 0) then (if (D 108 1) = 0 then (some ((-6 : Int32), E)) else (if a2 < 0 then (some ((-7 : Int32), E)) else (if a2 < (D 108 3) then (rk 60 a2 (some ((nI 0), (sE E 109 (a2).toNatClampNeg (g_Row_cutToWidth_108 D a3))))) else (some ((-7 : Int32), E))))) else (if a1 = (nI 1) then (if (D 110 1) = 0 then (some ((-6 : Int32), E)) else (if a2 < 0 then (some ((-7 : Int32), E)) else (if a2 < (D 110 3) then (rk 60 a2 (some ((nI 0), (sE E 111 (a2).toNatClampNeg (g_Row_cutToWidth_110 D a3))))) else (some ((-7 : Int32), E))))) else (if a1 = (nI 2) then (if (D 112 1) = 0 then (some ((-6 : Int32), E)) else (if a2 < 0 then (some ((-7 : Int32), E)) else (if a2 < (D 112 3) then (rk 60 a2 (some ((nI 0), (sE E 113 (a2).toNatClampNeg (g_Row_cutToWidth_112 D a3))))) else (some ((-7 : Int32), E))))) else (if a1 = (nI 3) then (if (D 114 1) = 0 then (some ((-6 : Int32), E)) else (if a2 < 0 then (some ((-7 : Int32), E)) else (if a2 < (D 114 3) then (rk 60 a2 (some ((nI 0), (sE E 115 (a2).toNatClampNeg (g_Row_cutToWidth_114 D a3))))) else (some ((-7 : Int32), E))))) else none)))))
set_option maxRecDepth 100000 in
set_option maxHeartbeats 4000000 in
theorem t_X_write (X : ev_X) (d : Nat) (hd : 1 ≤ d + 1) (D : mx_D) (a1 : Int32) (a2 : Int32) (a3 : Int64) (E : mx_E) (v : Int32 × mx_E) (h : g_X_write D a1 a2 a3 E = some v) : ev X (d + 1) 179 (0, [some (.ref 0), some (.int a1), some (.int a2), some (.long a3), none, none], [], D, E) (qR (some (.int v.1)) D v.2) := by
  have hq : kq_m 179 = some kq_q179 := rfl
  unfold g_X_write at h
  refine gv_n hq 1 (S' := (1, [some (.ref 0), some (.int a1), some (.int a2), some (.long a3), none, none], [.int a1], D, E)) rfl ?_
  refine gv_d hq rfl rfl rfl rfl rfl ((t_X_isSlot X d D E _ _ rfl)) (S' := (4, [some (.ref 0), some (.int a1), some (.int a2), some (.long a3), none, none], [.int (g_X_isSlot a1)], D, E)) rfl ?_
  refine gv_b hq rfl h 7 10 rfl rfl rfl (fun h => ?_) (fun h => ?_)
  · refine gv_n hq 1 (S' := (9, [some (.ref 0), some (.int a1), some (.int a2), some (.long a3), none, none], [.int (-2 : Int32)], D, E)) rfl ?_
    cases h
    exact ev_ret hq rfl rfl ⟨rfl, rfl, rfl⟩
  · refine gv_n hq 3 (S' := (15, [some (.ref 0), some (.int a1), some (.int a2), some (.long a3), none, none], [.int a1, .ref 62], D, E)) rfl ?_
    refine gv_if h (fun c0 h => ?_) (fun c0 h => ?_)
    · refine ev_ins hq rfl (S' := (16, [some (.ref 0), some (.int a1), some (.int a2), some (.long a3), none, none], [.ref 108], D, E)) (gv_sw (fun z => ((15, [some (.ref 0), some (.int a1), some (.int a2), some (.long a3), none, none], .int z :: [.ref 62], D, E) : mx_S)) c0 rfl) ?_
      refine gv_n hq 3 (S' := (23, [some (.ref 0), some (.int a1), some (.int a2), some (.long a3), none, some (.ref 108)], [.int (D 108 1)], D, E)) rfl ?_
      refine gv_b hq rfl h 26 29 rfl rfl rfl (fun h => ?_) (fun h => ?_)
      · refine gv_n hq 1 (S' := (28, [some (.ref 0), some (.int a1), some (.int a2), some (.long a3), none, some (.ref 108)], [.int (-6 : Int32)], D, E)) rfl ?_
        cases h
        exact ev_ret hq rfl rfl ⟨rfl, rfl, rfl⟩
      · refine gv_n hq 1 (S' := (30, [some (.ref 0), some (.int a1), some (.int a2), some (.long a3), none, some (.ref 108)], [.int a2], D, E)) rfl ?_
        refine gv_b hq rfl h 42 33 rfl rfl rfl (fun h => ?_) (fun h => ?_)
        · refine gv_n hq 1 (S' := (44, [some (.ref 0), some (.int a1), some (.int a2), some (.long a3), none, some (.ref 108)], [.int (-7 : Int32)], D, E)) rfl ?_
          cases h
          exact ev_ret hq rfl rfl ⟨rfl, rfl, rfl⟩
        · refine gv_n hq 3 (S' := (39, [some (.ref 0), some (.int a1), some (.int a2), some (.long a3), none, some (.ref 108)], [.int (D 108 3), .int a2], D, E)) rfl ?_
          refine gv_b hq rfl h 45 42 rfl rfl rfl (fun h => ?_) (fun h => ?_)
          · refine gv_n hq 5 (S' := (54, [some (.ref 0), some (.int a1), some (.int a2), some (.long a3), none, some (.ref 108)], [.long a3, .ref 108, .int a2, .ref 109], D, E)) rfl ?_
            refine gv_d hq rfl rfl rfl rfl rfl ((t_Row_cutToWidth_108 X d D E _ _ rfl)) (S' := (57, [some (.ref 0), some (.int a1), some (.int a2), some (.long a3), none, some (.ref 108)], [.long (g_Row_cutToWidth_108 D a3), .int a2, .ref 109], D, E)) rfl ?_
            refine gv_ls hq rfl rfl h 58 rfl (fun h => ?_)
            refine gv_n hq 1 (S' := (59, [some (.ref 0), some (.int a1), some (.int a2), some (.long a3), none, some (.ref 108)], [.int (nI 0)], D, (sE E 109 (a2).toNatClampNeg (g_Row_cutToWidth_108 D a3)))) rfl ?_
            cases h
            exact ev_ret hq rfl rfl ⟨rfl, rfl, rfl⟩
          · refine gv_n hq 1 (S' := (44, [some (.ref 0), some (.int a1), some (.int a2), some (.long a3), none, some (.ref 108)], [.int (-7 : Int32)], D, E)) rfl ?_
            cases h
            exact ev_ret hq rfl rfl ⟨rfl, rfl, rfl⟩
    · refine gv_if h (fun c1 h => ?_) (fun c1 h => ?_)
      · refine ev_ins hq rfl (S' := (16, [some (.ref 0), some (.int a1), some (.int a2), some (.long a3), none, none], [.ref 110], D, E)) (gv_sw (fun z => ((15, [some (.ref 0), some (.int a1), some (.int a2), some (.long a3), none, none], .int z :: [.ref 62], D, E) : mx_S)) c1 rfl) ?_
        refine gv_n hq 3 (S' := (23, [some (.ref 0), some (.int a1), some (.int a2), some (.long a3), none, some (.ref 110)], [.int (D 110 1)], D, E)) rfl ?_
        refine gv_b hq rfl h 26 29 rfl rfl rfl (fun h => ?_) (fun h => ?_)
        · refine gv_n hq 1 (S' := (28, [some (.ref 0), some (.int a1), some (.int a2), some (.long a3), none, some (.ref 110)], [.int (-6 : Int32)], D, E)) rfl ?_
          cases h
          exact ev_ret hq rfl rfl ⟨rfl, rfl, rfl⟩
        · refine gv_n hq 1 (S' := (30, [some (.ref 0), some (.int a1), some (.int a2), some (.long a3), none, some (.ref 110)], [.int a2], D, E)) rfl ?_
          refine gv_b hq rfl h 42 33 rfl rfl rfl (fun h => ?_) (fun h => ?_)
          · refine gv_n hq 1 (S' := (44, [some (.ref 0), some (.int a1), some (.int a2), some (.long a3), none, some (.ref 110)], [.int (-7 : Int32)], D, E)) rfl ?_
            cases h
            exact ev_ret hq rfl rfl ⟨rfl, rfl, rfl⟩
          · refine gv_n hq 3 (S' := (39, [some (.ref 0), some (.int a1), some (.int a2), some (.long a3), none, some (.ref 110)], [.int (D 110 3), .int a2], D, E)) rfl ?_
            refine gv_b hq rfl h 45 42 rfl rfl rfl (fun h => ?_) (fun h => ?_)
            · refine gv_n hq 5 (S' := (54, [some (.ref 0), some (.int a1), some (.int a2), some (.long a3), none, some (.ref 110)], [.long a3, .ref 110, .int a2, .ref 111], D, E)) rfl ?_
              refine gv_d hq rfl rfl rfl rfl rfl ((t_Row_cutToWidth_110 X d D E _ _ rfl)) (S' := (57, [some (.ref 0), some (.int a1), some (.int a2), some (.long a3), none, some (.ref 110)], [.long (g_Row_cutToWidth_110 D a3), .int a2, .ref 111], D, E)) rfl ?_
              refine gv_ls hq rfl rfl h 58 rfl (fun h => ?_)
              refine gv_n hq 1 (S' := (59, [some (.ref 0), some (.int a1), some (.int a2), some (.long a3), none, some (.ref 110)], [.int (nI 0)], D, (sE E 111 (a2).toNatClampNeg (g_Row_cutToWidth_110 D a3)))) rfl ?_
              cases h
              exact ev_ret hq rfl rfl ⟨rfl, rfl, rfl⟩
            · refine gv_n hq 1 (S' := (44, [some (.ref 0), some (.int a1), some (.int a2), some (.long a3), none, some (.ref 110)], [.int (-7 : Int32)], D, E)) rfl ?_
              cases h
              exact ev_ret hq rfl rfl ⟨rfl, rfl, rfl⟩
      · refine gv_if h (fun c2 h => ?_) (fun c2 h => ?_)
        · refine ev_ins hq rfl (S' := (16, [some (.ref 0), some (.int a1), some (.int a2), some (.long a3), none, none], [.ref 112], D, E)) (gv_sw (fun z => ((15, [some (.ref 0), some (.int a1), some (.int a2), some (.long a3), none, none], .int z :: [.ref 62], D, E) : mx_S)) c2 rfl) ?_
          refine gv_n hq 3 (S' := (23, [some (.ref 0), some (.int a1), some (.int a2), some (.long a3), none, some (.ref 112)], [.int (D 112 1)], D, E)) rfl ?_
          refine gv_b hq rfl h 26 29 rfl rfl rfl (fun h => ?_) (fun h => ?_)
          · refine gv_n hq 1 (S' := (28, [some (.ref 0), some (.int a1), some (.int a2), some (.long a3), none, some (.ref 112)], [.int (-6 : Int32)], D, E)) rfl ?_
            cases h
            exact ev_ret hq rfl rfl ⟨rfl, rfl, rfl⟩
          · refine gv_n hq 1 (S' := (30, [some (.ref 0), some (.int a1), some (.int a2), some (.long a3), none, some (.ref 112)], [.int a2], D, E)) rfl ?_
            refine gv_b hq rfl h 42 33 rfl rfl rfl (fun h => ?_) (fun h => ?_)
            · refine gv_n hq 1 (S' := (44, [some (.ref 0), some (.int a1), some (.int a2), some (.long a3), none, some (.ref 112)], [.int (-7 : Int32)], D, E)) rfl ?_
              cases h
              exact ev_ret hq rfl rfl ⟨rfl, rfl, rfl⟩
            · refine gv_n hq 3 (S' := (39, [some (.ref 0), some (.int a1), some (.int a2), some (.long a3), none, some (.ref 112)], [.int (D 112 3), .int a2], D, E)) rfl ?_
              refine gv_b hq rfl h 45 42 rfl rfl rfl (fun h => ?_) (fun h => ?_)
              · refine gv_n hq 5 (S' := (54, [some (.ref 0), some (.int a1), some (.int a2), some (.long a3), none, some (.ref 112)], [.long a3, .ref 112, .int a2, .ref 113], D, E)) rfl ?_
                refine gv_d hq rfl rfl rfl rfl rfl ((t_Row_cutToWidth_112 X d D E _ _ rfl)) (S' := (57, [some (.ref 0), some (.int a1), some (.int a2), some (.long a3), none, some (.ref 112)], [.long (g_Row_cutToWidth_112 D a3), .int a2, .ref 113], D, E)) rfl ?_
                refine gv_ls hq rfl rfl h 58 rfl (fun h => ?_)
                refine gv_n hq 1 (S' := (59, [some (.ref 0), some (.int a1), some (.int a2), some (.long a3), none, some (.ref 112)], [.int (nI 0)], D, (sE E 113 (a2).toNatClampNeg (g_Row_cutToWidth_112 D a3)))) rfl ?_
                cases h
                exact ev_ret hq rfl rfl ⟨rfl, rfl, rfl⟩
              · refine gv_n hq 1 (S' := (44, [some (.ref 0), some (.int a1), some (.int a2), some (.long a3), none, some (.ref 112)], [.int (-7 : Int32)], D, E)) rfl ?_
                cases h
                exact ev_ret hq rfl rfl ⟨rfl, rfl, rfl⟩
        · refine gv_if h (fun c3 h => ?_) (fun c3 h => ?_)
          · refine ev_ins hq rfl (S' := (16, [some (.ref 0), some (.int a1), some (.int a2), some (.long a3), none, none], [.ref 114], D, E)) (gv_sw (fun z => ((15, [some (.ref 0), some (.int a1), some (.int a2), some (.long a3), none, none], .int z :: [.ref 62], D, E) : mx_S)) c3 rfl) ?_
            refine gv_n hq 3 (S' := (23, [some (.ref 0), some (.int a1), some (.int a2), some (.long a3), none, some (.ref 114)], [.int (D 114 1)], D, E)) rfl ?_
            refine gv_b hq rfl h 26 29 rfl rfl rfl (fun h => ?_) (fun h => ?_)
            · refine gv_n hq 1 (S' := (28, [some (.ref 0), some (.int a1), some (.int a2), some (.long a3), none, some (.ref 114)], [.int (-6 : Int32)], D, E)) rfl ?_
              cases h
              exact ev_ret hq rfl rfl ⟨rfl, rfl, rfl⟩
            · refine gv_n hq 1 (S' := (30, [some (.ref 0), some (.int a1), some (.int a2), some (.long a3), none, some (.ref 114)], [.int a2], D, E)) rfl ?_
              refine gv_b hq rfl h 42 33 rfl rfl rfl (fun h => ?_) (fun h => ?_)
              · refine gv_n hq 1 (S' := (44, [some (.ref 0), some (.int a1), some (.int a2), some (.long a3), none, some (.ref 114)], [.int (-7 : Int32)], D, E)) rfl ?_
                cases h
                exact ev_ret hq rfl rfl ⟨rfl, rfl, rfl⟩
              · refine gv_n hq 3 (S' := (39, [some (.ref 0), some (.int a1), some (.int a2), some (.long a3), none, some (.ref 114)], [.int (D 114 3), .int a2], D, E)) rfl ?_
                refine gv_b hq rfl h 45 42 rfl rfl rfl (fun h => ?_) (fun h => ?_)
                · refine gv_n hq 5 (S' := (54, [some (.ref 0), some (.int a1), some (.int a2), some (.long a3), none, some (.ref 114)], [.long a3, .ref 114, .int a2, .ref 115], D, E)) rfl ?_
                  refine gv_d hq rfl rfl rfl rfl rfl ((t_Row_cutToWidth_114 X d D E _ _ rfl)) (S' := (57, [some (.ref 0), some (.int a1), some (.int a2), some (.long a3), none, some (.ref 114)], [.long (g_Row_cutToWidth_114 D a3), .int a2, .ref 115], D, E)) rfl ?_
                  refine gv_ls hq rfl rfl h 58 rfl (fun h => ?_)
                  refine gv_n hq 1 (S' := (59, [some (.ref 0), some (.int a1), some (.int a2), some (.long a3), none, some (.ref 114)], [.int (nI 0)], D, (sE E 115 (a2).toNatClampNeg (g_Row_cutToWidth_114 D a3)))) rfl ?_
                  cases h
                  exact ev_ret hq rfl rfl ⟨rfl, rfl, rfl⟩
                · refine gv_n hq 1 (S' := (44, [some (.ref 0), some (.int a1), some (.int a2), some (.long a3), none, some (.ref 114)], [.int (-7 : Int32)], D, E)) rfl ?_
                  cases h
                  exact ev_ret hq rfl rfl ⟨rfl, rfl, rfl⟩
          · cases h
def g_M_cut2 (a0 : Int64) (a2 : Int32) : Int64 := ((a0 <<< ((((nI 64) - ((nI 8) <<< (a2 &&& 31)))).toInt64 &&& 63)) >>> ((((nI 64) - ((nI 8) <<< (a2 &&& 31)))).toInt64 &&& 63))
set_option maxRecDepth 100000 in
set_option maxHeartbeats 4000000 in
theorem t_M_cut2 (X : ev_X) (d : Nat) (D : mx_D) (E : mx_E) (a0 : Int64) (a2 : Int32) (v : Int64) (h : g_M_cut2 a0 a2 = v) : ev X d 330 (0, [some (.long a0), none, some (.int a2), none], [], D, E) (qR (some (.long v)) D E) := by
  have hq : kq_m 330 = some kq_q330 := rfl
  unfold g_M_cut2 at h
  refine gv_n hq 11 (S' := (13, [some (.long a0), none, some (.int a2), some (.int ((nI 64) - ((nI 8) <<< (a2 &&& 31))))], [.long ((a0 <<< ((((nI 64) - ((nI 8) <<< (a2 &&& 31)))).toInt64 &&& 63)) >>> ((((nI 64) - ((nI 8) <<< (a2 &&& 31)))).toInt64 &&& 63))], D, E)) rfl ?_
  subst h
  exact ev_ret hq rfl rfl ⟨rfl, rfl, rfl⟩
def g_M_write (D : mx_D) (a1 : Int32) (a2 : Int32) (a3 : Int64) (E : mx_E) : Option (Int32 × mx_E) := (if (g_M_isSlot a1) = 0 then (some ((-2 : Int32), E)) else (rk 4 a1 (if (D 137 (a1).toNatClampNeg) = (-1 : Int32) then (some ((-6 : Int32), E)) else (rk 4 a1 (if (g_M_in ((a2).toInt64) (lN 0) ((((D 137 (a1).toNatClampNeg) - (nI 1))).toInt64)) = 0 then (some ((-7 : Int32), E)) else (rk 4 a1 (rk 240 (((nI 60) * a1) + a2) (some ((nI 0), (sE E 139 ((((nI 60) * a1) + a2)).toNatClampNeg (g_M_cut2 a3 (D 138 (a1).toNatClampNeg))))))))))))
set_option maxRecDepth 100000 in
set_option maxHeartbeats 4000000 in
theorem t_M_write (X : ev_X) (d : Nat) (hd : 2 ≤ d + 1) (D : mx_D) (a1 : Int32) (a2 : Int32) (a3 : Int64) (E : mx_E) (v : Int32 × mx_E) (h : g_M_write D a1 a2 a3 E = some v) : ev X (d + 1) 329 (0, [some (.ref 116), some (.int a1), some (.int a2), some (.long a3), none], [], D, E) (qR (some (.int v.1)) D v.2) := by
  have hq : kq_m 329 = some kq_q329 := rfl
  unfold g_M_write at h
  refine gv_n hq 1 (S' := (1, [some (.ref 116), some (.int a1), some (.int a2), some (.long a3), none], [.int a1], D, E)) rfl ?_
  refine gv_d hq rfl rfl rfl rfl rfl (gv_dd (by omega) (t_M_isSlot X (d - 1) (by omega) D E _ _ rfl)) (S' := (4, [some (.ref 116), some (.int a1), some (.int a2), some (.long a3), none], [.int (g_M_isSlot a1)], D, E)) rfl ?_
  refine gv_b hq rfl h 7 10 rfl rfl rfl (fun h => ?_) (fun h => ?_)
  · refine gv_n hq 1 (S' := (9, [some (.ref 116), some (.int a1), some (.int a2), some (.long a3), none], [.int (-2 : Int32)], D, E)) rfl ?_
    cases h
    exact ev_ret hq rfl rfl ⟨rfl, rfl, rfl⟩
  · refine gv_n hq 3 (S' := (15, [some (.ref 116), some (.int a1), some (.int a2), some (.long a3), none], [.int a1, .ref 137], D, E)) rfl ?_
    refine gv_ia hq rfl rfl rfl h 16 rfl (fun h => ?_)
    refine gv_n hq 1 (S' := (17, [some (.ref 116), some (.int a1), some (.int a2), some (.long a3), none], [.int (-1 : Int32), .int (D 137 (a1).toNatClampNeg)], D, E)) rfl ?_
    refine gv_b hq rfl h 20 23 rfl rfl rfl (fun h => ?_) (fun h => ?_)
    · refine gv_n hq 1 (S' := (22, [some (.ref 116), some (.int a1), some (.int a2), some (.long a3), none], [.int (-6 : Int32)], D, E)) rfl ?_
      cases h
      exact ev_ret hq rfl rfl ⟨rfl, rfl, rfl⟩
    · refine gv_n hq 6 (S' := (31, [some (.ref 116), some (.int a1), some (.int a2), some (.long a3), none], [.int a1, .ref 137, .long (lN 0), .long ((a2).toInt64)], D, E)) rfl ?_
      refine gv_ia hq rfl rfl rfl h 32 rfl (fun h => ?_)
      refine gv_n hq 3 (S' := (35, [some (.ref 116), some (.int a1), some (.int a2), some (.long a3), none], [.long ((((D 137 (a1).toNatClampNeg) - (nI 1))).toInt64), .long (lN 0), .long ((a2).toInt64)], D, E)) rfl ?_
      refine gv_d hq rfl rfl rfl rfl rfl ((t_M_in X d D E _ _ _ _ rfl)) (S' := (38, [some (.ref 116), some (.int a1), some (.int a2), some (.long a3), none], [.int (g_M_in ((a2).toInt64) (lN 0) ((((D 137 (a1).toNatClampNeg) - (nI 1))).toInt64))], D, E)) rfl ?_
      refine gv_b hq rfl h 41 44 rfl rfl rfl (fun h => ?_) (fun h => ?_)
      · refine gv_n hq 1 (S' := (43, [some (.ref 116), some (.int a1), some (.int a2), some (.long a3), none], [.int (-7 : Int32)], D, E)) rfl ?_
        cases h
        exact ev_ret hq rfl rfl ⟨rfl, rfl, rfl⟩
      · refine gv_n hq 11 (S' := (60, [some (.ref 116), some (.int a1), some (.int a2), some (.long a3), none], [.int a1, .ref 138, .long a3, .int (((nI 60) * a1) + a2), .ref 139], D, E)) rfl ?_
        refine gv_ia hq rfl rfl rfl h 61 rfl (fun h => ?_)
        refine gv_d hq rfl rfl rfl rfl rfl ((t_M_cut2 X d D E _ _ _ rfl)) (S' := (64, [some (.ref 116), some (.int a1), some (.int a2), some (.long a3), none], [.long (g_M_cut2 a3 (D 138 (a1).toNatClampNeg)), .int (((nI 60) * a1) + a2), .ref 139], D, E)) rfl ?_
        refine gv_ls hq rfl rfl h 65 rfl (fun h => ?_)
        refine gv_n hq 1 (S' := (66, [some (.ref 116), some (.int a1), some (.int a2), some (.long a3), none], [.int (nI 0)], D, (sE E 139 ((((nI 60) * a1) + a2)).toNatClampNeg (g_M_cut2 a3 (D 138 (a1).toNatClampNeg))))) rfl ?_
        cases h
        exact ev_ret hq rfl rfl ⟨rfl, rfl, rfl⟩
def g_Row_holds_108 (D : mx_D) (a1 : Int32) (a2 : Int32) : Int32 := (if a1 < 0 then (nI 0) else (if a2 < 0 then (nI 0) else (if (D 108 3) < a1 then (nI 0) else (if ((D 108 3) - a1) < a2 then (nI 0) else (nI 1)))))
set_option maxRecDepth 100000 in
set_option maxHeartbeats 4000000 in
theorem t_Row_holds_108 (X : ev_X) (d : Nat) (D : mx_D) (E : mx_E) (a1 : Int32) (a2 : Int32) (v : Int32) (h : g_Row_holds_108 D a1 a2 = v) : ev X d 81 (0, [some (.ref 108), some (.int a1), some (.int a2)], [], D, E) (qR (some (.int v)) D E) := by
  have hq : kq_m 81 = some kq_q81 := rfl
  unfold g_Row_holds_108 at h
  refine gv_n hq 1 (S' := (1, [some (.ref 108), some (.int a1), some (.int a2)], [.int a1], D, E)) rfl ?_
  refine gv_b hq rfl h 30 4 rfl rfl rfl (fun h => ?_) (fun h => ?_)
  · refine gv_n hq 1 (S' := (31, [some (.ref 108), some (.int a1), some (.int a2)], [.int (nI 0)], D, E)) rfl ?_
    subst h
    exact ev_ret hq rfl rfl ⟨rfl, rfl, rfl⟩
  · refine gv_n hq 1 (S' := (5, [some (.ref 108), some (.int a1), some (.int a2)], [.int a2], D, E)) rfl ?_
    refine gv_b hq rfl h 30 8 rfl rfl rfl (fun h => ?_) (fun h => ?_)
    · refine gv_n hq 1 (S' := (31, [some (.ref 108), some (.int a1), some (.int a2)], [.int (nI 0)], D, E)) rfl ?_
      subst h
      exact ev_ret hq rfl rfl ⟨rfl, rfl, rfl⟩
    · refine gv_n hq 3 (S' := (13, [some (.ref 108), some (.int a1), some (.int a2)], [.int (D 108 3), .int a1], D, E)) rfl ?_
      refine gv_b hq rfl h 30 16 rfl rfl rfl (fun h => ?_) (fun h => ?_)
      · refine gv_n hq 1 (S' := (31, [some (.ref 108), some (.int a1), some (.int a2)], [.int (nI 0)], D, E)) rfl ?_
        subst h
        exact ev_ret hq rfl rfl ⟨rfl, rfl, rfl⟩
      · refine gv_n hq 5 (S' := (23, [some (.ref 108), some (.int a1), some (.int a2)], [.int ((D 108 3) - a1), .int a2], D, E)) rfl ?_
        refine gv_b hq rfl h 30 26 rfl rfl rfl (fun h => ?_) (fun h => ?_)
        · refine gv_n hq 1 (S' := (31, [some (.ref 108), some (.int a1), some (.int a2)], [.int (nI 0)], D, E)) rfl ?_
          subst h
          exact ev_ret hq rfl rfl ⟨rfl, rfl, rfl⟩
        · refine gv_n hq 2 (S' := (31, [some (.ref 108), some (.int a1), some (.int a2)], [.int (nI 1)], D, E)) rfl ?_
          subst h
          exact ev_ret hq rfl rfl ⟨rfl, rfl, rfl⟩
theorem z_Row_holds_108 (D : mx_D) (a1 : Int32) (a2 : Int32) : g_Row_holds_108 D a1 a2 = 0 ∨ g_Row_holds_108 D a1 a2 = 1 := by
  unfold g_Row_holds_108
  (repeat' split) <;> first | exact Or.inl rfl | exact Or.inr rfl
def g_Row_holds_110 (D : mx_D) (a1 : Int32) (a2 : Int32) : Int32 := (if a1 < 0 then (nI 0) else (if a2 < 0 then (nI 0) else (if (D 110 3) < a1 then (nI 0) else (if ((D 110 3) - a1) < a2 then (nI 0) else (nI 1)))))
set_option maxRecDepth 100000 in
set_option maxHeartbeats 4000000 in
theorem t_Row_holds_110 (X : ev_X) (d : Nat) (D : mx_D) (E : mx_E) (a1 : Int32) (a2 : Int32) (v : Int32) (h : g_Row_holds_110 D a1 a2 = v) : ev X d 81 (0, [some (.ref 110), some (.int a1), some (.int a2)], [], D, E) (qR (some (.int v)) D E) := by
  have hq : kq_m 81 = some kq_q81 := rfl
  unfold g_Row_holds_110 at h
  refine gv_n hq 1 (S' := (1, [some (.ref 110), some (.int a1), some (.int a2)], [.int a1], D, E)) rfl ?_
  refine gv_b hq rfl h 30 4 rfl rfl rfl (fun h => ?_) (fun h => ?_)
  · refine gv_n hq 1 (S' := (31, [some (.ref 110), some (.int a1), some (.int a2)], [.int (nI 0)], D, E)) rfl ?_
    subst h
    exact ev_ret hq rfl rfl ⟨rfl, rfl, rfl⟩
  · refine gv_n hq 1 (S' := (5, [some (.ref 110), some (.int a1), some (.int a2)], [.int a2], D, E)) rfl ?_
    refine gv_b hq rfl h 30 8 rfl rfl rfl (fun h => ?_) (fun h => ?_)
    · refine gv_n hq 1 (S' := (31, [some (.ref 110), some (.int a1), some (.int a2)], [.int (nI 0)], D, E)) rfl ?_
      subst h
      exact ev_ret hq rfl rfl ⟨rfl, rfl, rfl⟩
    · refine gv_n hq 3 (S' := (13, [some (.ref 110), some (.int a1), some (.int a2)], [.int (D 110 3), .int a1], D, E)) rfl ?_
      refine gv_b hq rfl h 30 16 rfl rfl rfl (fun h => ?_) (fun h => ?_)
      · refine gv_n hq 1 (S' := (31, [some (.ref 110), some (.int a1), some (.int a2)], [.int (nI 0)], D, E)) rfl ?_
        subst h
        exact ev_ret hq rfl rfl ⟨rfl, rfl, rfl⟩
      · refine gv_n hq 5 (S' := (23, [some (.ref 110), some (.int a1), some (.int a2)], [.int ((D 110 3) - a1), .int a2], D, E)) rfl ?_
        refine gv_b hq rfl h 30 26 rfl rfl rfl (fun h => ?_) (fun h => ?_)
        · refine gv_n hq 1 (S' := (31, [some (.ref 110), some (.int a1), some (.int a2)], [.int (nI 0)], D, E)) rfl ?_
          subst h
          exact ev_ret hq rfl rfl ⟨rfl, rfl, rfl⟩
        · refine gv_n hq 2 (S' := (31, [some (.ref 110), some (.int a1), some (.int a2)], [.int (nI 1)], D, E)) rfl ?_
          subst h
          exact ev_ret hq rfl rfl ⟨rfl, rfl, rfl⟩
theorem z_Row_holds_110 (D : mx_D) (a1 : Int32) (a2 : Int32) : g_Row_holds_110 D a1 a2 = 0 ∨ g_Row_holds_110 D a1 a2 = 1 := by
  unfold g_Row_holds_110
  (repeat' split) <;> first | exact Or.inl rfl | exact Or.inr rfl
def g_Row_holds_112 (D : mx_D) (a1 : Int32) (a2 : Int32) : Int32 := (if a1 < 0 then (nI 0) else (if a2 < 0 then (nI 0) else (if (D 112 3) < a1 then (nI 0) else (if ((D 112 3) - a1) < a2 then (nI 0) else (nI 1)))))
set_option maxRecDepth 100000 in
set_option maxHeartbeats 4000000 in
theorem t_Row_holds_112 (X : ev_X) (d : Nat) (D : mx_D) (E : mx_E) (a1 : Int32) (a2 : Int32) (v : Int32) (h : g_Row_holds_112 D a1 a2 = v) : ev X d 81 (0, [some (.ref 112), some (.int a1), some (.int a2)], [], D, E) (qR (some (.int v)) D E) := by
  have hq : kq_m 81 = some kq_q81 := rfl
  unfold g_Row_holds_112 at h
  refine gv_n hq 1 (S' := (1, [some (.ref 112), some (.int a1), some (.int a2)], [.int a1], D, E)) rfl ?_
  refine gv_b hq rfl h 30 4 rfl rfl rfl (fun h => ?_) (fun h => ?_)
  · refine gv_n hq 1 (S' := (31, [some (.ref 112), some (.int a1), some (.int a2)], [.int (nI 0)], D, E)) rfl ?_
    subst h
    exact ev_ret hq rfl rfl ⟨rfl, rfl, rfl⟩
  · refine gv_n hq 1 (S' := (5, [some (.ref 112), some (.int a1), some (.int a2)], [.int a2], D, E)) rfl ?_
    refine gv_b hq rfl h 30 8 rfl rfl rfl (fun h => ?_) (fun h => ?_)
    · refine gv_n hq 1 (S' := (31, [some (.ref 112), some (.int a1), some (.int a2)], [.int (nI 0)], D, E)) rfl ?_
      subst h
      exact ev_ret hq rfl rfl ⟨rfl, rfl, rfl⟩
    · refine gv_n hq 3 (S' := (13, [some (.ref 112), some (.int a1), some (.int a2)], [.int (D 112 3), .int a1], D, E)) rfl ?_
      refine gv_b hq rfl h 30 16 rfl rfl rfl (fun h => ?_) (fun h => ?_)
      · refine gv_n hq 1 (S' := (31, [some (.ref 112), some (.int a1), some (.int a2)], [.int (nI 0)], D, E)) rfl ?_
        subst h
        exact ev_ret hq rfl rfl ⟨rfl, rfl, rfl⟩
      · refine gv_n hq 5 (S' := (23, [some (.ref 112), some (.int a1), some (.int a2)], [.int ((D 112 3) - a1), .int a2], D, E)) rfl ?_
        refine gv_b hq rfl h 30 26 rfl rfl rfl (fun h => ?_) (fun h => ?_)
        · refine gv_n hq 1 (S' := (31, [some (.ref 112), some (.int a1), some (.int a2)], [.int (nI 0)], D, E)) rfl ?_
          subst h
          exact ev_ret hq rfl rfl ⟨rfl, rfl, rfl⟩
        · refine gv_n hq 2 (S' := (31, [some (.ref 112), some (.int a1), some (.int a2)], [.int (nI 1)], D, E)) rfl ?_
          subst h
          exact ev_ret hq rfl rfl ⟨rfl, rfl, rfl⟩
theorem z_Row_holds_112 (D : mx_D) (a1 : Int32) (a2 : Int32) : g_Row_holds_112 D a1 a2 = 0 ∨ g_Row_holds_112 D a1 a2 = 1 := by
  unfold g_Row_holds_112
  (repeat' split) <;> first | exact Or.inl rfl | exact Or.inr rfl
def g_Row_holds_114 (D : mx_D) (a1 : Int32) (a2 : Int32) : Int32 := (if a1 < 0 then (nI 0) else (if a2 < 0 then (nI 0) else (if (D 114 3) < a1 then (nI 0) else (if ((D 114 3) - a1) < a2 then (nI 0) else (nI 1)))))
set_option maxRecDepth 100000 in
set_option maxHeartbeats 4000000 in
theorem t_Row_holds_114 (X : ev_X) (d : Nat) (D : mx_D) (E : mx_E) (a1 : Int32) (a2 : Int32) (v : Int32) (h : g_Row_holds_114 D a1 a2 = v) : ev X d 81 (0, [some (.ref 114), some (.int a1), some (.int a2)], [], D, E) (qR (some (.int v)) D E) := by
  have hq : kq_m 81 = some kq_q81 := rfl
  unfold g_Row_holds_114 at h
  refine gv_n hq 1 (S' := (1, [some (.ref 114), some (.int a1), some (.int a2)], [.int a1], D, E)) rfl ?_
  refine gv_b hq rfl h 30 4 rfl rfl rfl (fun h => ?_) (fun h => ?_)
  · refine gv_n hq 1 (S' := (31, [some (.ref 114), some (.int a1), some (.int a2)], [.int (nI 0)], D, E)) rfl ?_
    subst h
    exact ev_ret hq rfl rfl ⟨rfl, rfl, rfl⟩
  · refine gv_n hq 1 (S' := (5, [some (.ref 114), some (.int a1), some (.int a2)], [.int a2], D, E)) rfl ?_
    refine gv_b hq rfl h 30 8 rfl rfl rfl (fun h => ?_) (fun h => ?_)
    · refine gv_n hq 1 (S' := (31, [some (.ref 114), some (.int a1), some (.int a2)], [.int (nI 0)], D, E)) rfl ?_
      subst h
      exact ev_ret hq rfl rfl ⟨rfl, rfl, rfl⟩
    · refine gv_n hq 3 (S' := (13, [some (.ref 114), some (.int a1), some (.int a2)], [.int (D 114 3), .int a1], D, E)) rfl ?_
      refine gv_b hq rfl h 30 16 rfl rfl rfl (fun h => ?_) (fun h => ?_)
      · refine gv_n hq 1 (S' := (31, [some (.ref 114), some (.int a1), some (.int a2)], [.int (nI 0)], D, E)) rfl ?_
        subst h
        exact ev_ret hq rfl rfl ⟨rfl, rfl, rfl⟩
      · refine gv_n hq 5 (S' := (23, [some (.ref 114), some (.int a1), some (.int a2)], [.int ((D 114 3) - a1), .int a2], D, E)) rfl ?_
        refine gv_b hq rfl h 30 26 rfl rfl rfl (fun h => ?_) (fun h => ?_)
        · refine gv_n hq 1 (S' := (31, [some (.ref 114), some (.int a1), some (.int a2)], [.int (nI 0)], D, E)) rfl ?_
          subst h
          exact ev_ret hq rfl rfl ⟨rfl, rfl, rfl⟩
        · refine gv_n hq 2 (S' := (31, [some (.ref 114), some (.int a1), some (.int a2)], [.int (nI 1)], D, E)) rfl ?_
          subst h
          exact ev_ret hq rfl rfl ⟨rfl, rfl, rfl⟩
theorem z_Row_holds_114 (D : mx_D) (a1 : Int32) (a2 : Int32) : g_Row_holds_114 D a1 a2 = 0 ∨ g_Row_holds_114 D a1 a2 = 1 := by
  unfold g_Row_holds_114
  (repeat' split) <;> first | exact Or.inl rfl | exact Or.inr rfl
def g_X_paste (D : mx_D) (a1 : Int32) (a2 : Int32) (a3 : Int32) (a4 : Int32) (a5 : Int32) (E : mx_E) : Option (Int32 × mx_E) := (if (g_X_isSlot a1) = 0 then (some ((-2 : Int32), E)) else (if (g_X_isSlot a3) = 0 then (some ((-2 : Int32), E)) else (if a1 = (nI 0) then (if a3 = (nI 0) then (if (D 108 1) = 0 then (some ((-6 : Int32), E)) else (if (D 108 1) = 0 then (some ((-6 : Int32), E)) else (if (D 108 2) = (D 108 2) then (if (g_Row_holds_108 D a2 a5) = 0 then (some ((-7 : Int32), E)) else (if (g_Row_holds_108 D a4 a5) = 0 then (some ((-7 : Int32), E)) else (ak a2 a4 a5 60 60 (some ((nI 0), (cE E 109 109 (a2).toNatClampNeg (a4).toNatClampNeg (a5).toNatClampNeg)))))) else (some ((-8 : Int32), E))))) else (if a3 = (nI 1) then (if (D 108 1) = 0 then (some ((-6 : Int32), E)) else (if (D 110 1) = 0 then (some ((-6 : Int32), E)) else (if (D 108 2) = (D 110 2) then (if (g_Row_holds_108 D a2 a5) = 0 then (some ((-7 : Int32), E)) else (if (g_Row_holds_110 D a4 a5) = 0 then (some ((-7 : Int32), E)) else (ak a2 a4 a5 60 60 (some ((nI 0), (cE E 109 111 (a2).toNatClampNeg (a4).toNatClampNeg (a5).toNatClampNeg)))))) else (some ((-8 : Int32), E))))) else (if a3 = (nI 2) then (if (D 108 1) = 0 then (some ((-6 : Int32), E)) else (if (D 112 1) = 0 then (some ((-6 : Int32), E)) else (if (D 108 2) = (D 112 2) then (if (g_Row_holds_108 D a2 a5) = 0 then (some ((-7 : Int32), E)) else (if (g_Row_holds_112 D a4 a5) = 0 then (some ((-7 : Int32), E)) else (ak a2 a4 a5 60 60 (some ((nI 0), (cE E 109 113 (a2).toNatClampNeg (a4).toNatClampNeg (a5).toNatClampNeg)))))) else (some ((-8 : Int32), E))))) else (if a3 = (nI 3) then (if (D 108 1) = 0 then (some ((-6 : Int32), E)) else (if (D 114 1) = 0 then (some ((-6 : Int32), E)) else (if (D 108 2) = (D 114 2) then (if (g_Row_holds_108 D a2 a5) = 0 then (some ((-7 : Int32), E)) else (if (g_Row_holds_114 D a4 a5) = 0 then (some ((-7 : Int32), E)) else (ak a2 a4 a5 60 60 (some ((nI 0), (cE E 109 115 (a2).toNatClampNeg (a4).toNatClampNeg (a5).toNatClampNeg)))))) else (some ((-8 : Int32), E))))) else none)))) else (if a1 = (nI 1) then (if a3 = (nI 0) then (if (D 110 1) = 0 then (some ((-6 : Int32), E)) else (if (D 108 1) = 0 then (some ((-6 : Int32), E)) else (if (D 110 2) = (D 108 2) then (if (g_Row_holds_110 D a2 a5) = 0 then (some ((-7 : Int32), E)) else (if (g_Row_holds_108 D a4 a5) = 0 then (some ((-7 : Int32), E)) else (ak a2 a4 a5 60 60 (some ((nI 0), (cE E 111 109 (a2).toNatClampNeg (a4).toNatClampNeg (a5).toNatClampNeg)))))) else (some ((-8 : Int32), E))))) else (if a3 = (nI 1) then (if (D 110 1) = 0 then (some ((-6 : Int32), E)) else (if (D 110 1) = 0 then (some ((-6 : Int32), E)) else (if (D 110 2) = (D 110 2) then (if (g_Row_holds_110 D a2 a5) = 0 then (some ((-7 : Int32), E)) else (if (g_Row_holds_110 D a4 a5) = 0 then (some ((-7 : Int32), E)) else (ak a2 a4 a5 60 60 (some ((nI 0), (cE E 111 111 (a2).toNatClampNeg (a4).toNatClampNeg (a5).toNatClampNeg)))))) else (some ((-8 : Int32), E))))) else (if a3 = (nI 2) then (if (D 110 1) = 0 then (some ((-6 : Int32), E)) else (if (D 112 1) = 0 then (some ((-6 : Int32), E)) else (if (D 110 2) = (D 112 2) then (if (g_Row_holds_110 D a2 a5) = 0 then (some ((-7 : Int32), E)) else (if (g_Row_holds_112 D a4 a5) = 0 then (some ((-7 : Int32), E)) else (ak a2 a4 a5 60 60 (some ((nI 0), (cE E 111 113 (a2).toNatClampNeg (a4).toNatClampNeg (a5).toNatClampNeg)))))) else (some ((-8 : Int32), E))))) else (if a3 = (nI 3) then (if (D 110 1) = 0 then (some ((-6 : Int32), E)) else (if (D 114 1) = 0 then (some ((-6 : Int32), E)) else (if (D 110 2) = (D 114 2) then (if (g_Row_holds_110 D a2 a5) = 0 then (some ((-7 : Int32), E)) else (if (g_Row_holds_114 D a4 a5) = 0 then (some ((-7 : Int32), E)) else (ak a2 a4 a5 60 60 (some ((nI 0), (cE E 111 115 (a2).toNatClampNeg (a4).toNatClampNeg (a5).toNatClampNeg)))))) else (some ((-8 : Int32), E))))) else none)))) else (if a1 = (nI 2) then (if a3 = (nI 0) then (if (D 112 1) = 0 then (some ((-6 : Int32), E)) else (if (D 108 1) = 0 then (some ((-6 : Int32), E)) else (if (D 112 2) = (D 108 2) then (if (g_Row_holds_112 D a2 a5) = 0 then (some ((-7 : Int32), E)) else (if (g_Row_holds_108 D a4 a5) = 0 then (some ((-7 : Int32), E)) else (ak a2 a4 a5 60 60 (some ((nI 0), (cE E 113 109 (a2).toNatClampNeg (a4).toNatClampNeg (a5).toNatClampNeg)))))) else (some ((-8 : Int32), E))))) else (if a3 = (nI 1) then (if (D 112 1) = 0 then (some ((-6 : Int32), E)) else (if (D 110 1) = 0 then (some ((-6 : Int32), E)) else (if (D 112 2) = (D 110 2) then (if (g_Row_holds_112 D a2 a5) = 0 then (some ((-7 : Int32), E)) else (if (g_Row_holds_110 D a4 a5) = 0 then (some ((-7 : Int32), E)) else (ak a2 a4 a5 60 60 (some ((nI 0), (cE E 113 111 (a2).toNatClampNeg (a4).toNatClampNeg (a5).toNatClampNeg)))))) else (some ((-8 : Int32), E))))) else (if a3 = (nI 2) then (if (D 112 1) = 0 then (some ((-6 : Int32), E)) else (if (D 112 1) = 0 then (some ((-6 : Int32), E)) else (if (D 112 2) = (D 112 2) then (if (g_Row_holds_112 D a2 a5) = 0 then (some ((-7 : Int32), E)) else (if (g_Row_holds_112 D a4 a5) = 0 then (some ((-7 : Int32), E)) else (ak a2 a4 a5 60 60 (some ((nI 0), (cE E 113 113 (a2).toNatClampNeg (a4).toNatClampNeg (a5).toNatClampNeg)))))) else (some ((-8 : Int32), E))))) else (if a3 = (nI 3) then (if (D 112 1) = 0 then (some ((-6 : Int32), E)) else (if (D 114 1) = 0 then (some ((-6 : Int32), E)) else (if (D 112 2) = (D 114 2) then (if (g_Row_holds_112 D a2 a5) = 0 then (some ((-7 : Int32), E)) else (if (g_Row_holds_114 D a4 a5) = 0 then (some ((-7 : Int32), E)) else (ak a2 a4 a5 60 60 (some ((nI 0), (cE E 113 115 (a2).toNatClampNeg (a4).toNatClampNeg (a5).toNatClampNeg)))))) else (some ((-8 : Int32), E))))) else none)))) else (if a1 = (nI 3) then (if a3 = (nI 0) then (if (D 114 1) = 0 then (some ((-6 : Int32), E)) else (if (D 108 1) = 0 then (some ((-6 : Int32), E)) else (if (D 114 2) = (D 108 2) then (if (g_Row_holds_114 D a2 a5) = 0 then (some ((-7 : Int32), E)) else (if (g_Row_holds_108 D a4 a5) = 0 then (some ((-7 : Int32), E)) else (ak a2 a4 a5 60 60 (some ((nI 0), (cE E 115 109 (a2).toNatClampNeg (a4).toNatClampNeg (a5).toNatClampNeg)))))) else (some ((-8 : Int32), E))))) else (if a3 = (nI 1) then (if (D 114 1) = 0 then (some ((-6 : Int32), E)) else (if (D 110 1) = 0 then (some ((-6 : Int32), E)) else (if (D 114 2) = (D 110 2) then (if (g_Row_holds_114 D a2 a5) = 0 then (some ((-7 : Int32), E)) else (if (g_Row_holds_110 D a4 a5) = 0 then (some ((-7 : Int32), E)) else (ak a2 a4 a5 60 60 (some ((nI 0), (cE E 115 111 (a2).toNatClampNeg (a4).toNatClampNeg (a5).toNatClampNeg)))))) else (some ((-8 : Int32), E))))) else (if a3 = (nI 2) then (if (D 114 1) = 0 then (some ((-6 : Int32), E)) else (if (D 112 1) = 0 then (some ((-6 : Int32), E)) else (if (D 114 2) = (D 112 2) then (if (g_Row_holds_114 D a2 a5) = 0 then (some ((-7 : Int32), E)) else (if (g_Row_holds_112 D a4 a5) = 0 then (some ((-7 : Int32), E)) else (ak a2 a4 a5 60 60 (some ((nI 0), (cE E 115 113 (a2).toNatClampNeg (a4).toNatClampNeg (a5).toNatClampNeg)))))) else (some ((-8 : Int32), E))))) else (if a3 = (nI 3) then (if (D 114 1) = 0 then (some ((-6 : Int32), E)) else (if (D 114 1) = 0 then (some ((-6 : Int32), E)) else (if (D 114 2) = (D 114 2) then (if (g_Row_holds_114 D a2 a5) = 0 then (some ((-7 : Int32), E)) else (if (g_Row_holds_114 D a4 a5) = 0 then (some ((-7 : Int32), E)) else (ak a2 a4 a5 60 60 (some ((nI 0), (cE E 115 115 (a2).toNatClampNeg (a4).toNatClampNeg (a5).toNatClampNeg)))))) else (some ((-8 : Int32), E))))) else none)))) else none))))))
set_option maxRecDepth 100000 in
set_option maxHeartbeats 4000000 in
theorem t_X_paste (X : ev_X) (d : Nat) (hd : 1 ≤ d + 1) (D : mx_D) (a1 : Int32) (a2 : Int32) (a3 : Int32) (a4 : Int32) (a5 : Int32) (E : mx_E) (v : Int32 × mx_E) (h : g_X_paste D a1 a2 a3 a4 a5 E = some v) : ev X (d + 1) 180 (0, [some (.ref 0), some (.int a1), some (.int a2), some (.int a3), some (.int a4), some (.int a5), none, none], [], D, E) (qR (some (.int v.1)) D v.2) := by
  have hq : kq_m 180 = some kq_q180 := rfl
  unfold g_X_paste at h
  refine gv_n hq 1 (S' := (1, [some (.ref 0), some (.int a1), some (.int a2), some (.int a3), some (.int a4), some (.int a5), none, none], [.int a1], D, E)) rfl ?_
  refine gv_d hq rfl rfl rfl rfl rfl ((t_X_isSlot X d D E _ _ rfl)) (S' := (4, [some (.ref 0), some (.int a1), some (.int a2), some (.int a3), some (.int a4), some (.int a5), none, none], [.int (g_X_isSlot a1)], D, E)) rfl ?_
  refine gv_b hq rfl h 14 7 rfl rfl rfl (fun h => ?_) (fun h => ?_)
  · refine gv_n hq 1 (S' := (16, [some (.ref 0), some (.int a1), some (.int a2), some (.int a3), some (.int a4), some (.int a5), none, none], [.int (-2 : Int32)], D, E)) rfl ?_
    cases h
    exact ev_ret hq rfl rfl ⟨rfl, rfl, rfl⟩
  · refine gv_n hq 1 (S' := (8, [some (.ref 0), some (.int a1), some (.int a2), some (.int a3), some (.int a4), some (.int a5), none, none], [.int a3], D, E)) rfl ?_
    refine gv_d hq rfl rfl rfl rfl rfl ((t_X_isSlot X d D E _ _ rfl)) (S' := (11, [some (.ref 0), some (.int a1), some (.int a2), some (.int a3), some (.int a4), some (.int a5), none, none], [.int (g_X_isSlot a3)], D, E)) rfl ?_
    refine gv_b hq rfl h 14 17 rfl rfl rfl (fun h => ?_) (fun h => ?_)
    · refine gv_n hq 1 (S' := (16, [some (.ref 0), some (.int a1), some (.int a2), some (.int a3), some (.int a4), some (.int a5), none, none], [.int (-2 : Int32)], D, E)) rfl ?_
      cases h
      exact ev_ret hq rfl rfl ⟨rfl, rfl, rfl⟩
    · refine gv_n hq 3 (S' := (22, [some (.ref 0), some (.int a1), some (.int a2), some (.int a3), some (.int a4), some (.int a5), none, none], [.int a1, .ref 62], D, E)) rfl ?_
      refine gv_if h (fun c0 h => ?_) (fun c0 h => ?_)
      · refine ev_ins hq rfl (S' := (23, [some (.ref 0), some (.int a1), some (.int a2), some (.int a3), some (.int a4), some (.int a5), none, none], [.ref 108], D, E)) (gv_sw (fun z => ((22, [some (.ref 0), some (.int a1), some (.int a2), some (.int a3), some (.int a4), some (.int a5), none, none], .int z :: [.ref 62], D, E) : mx_S)) c0 rfl) ?_
        refine gv_n hq 4 (S' := (30, [some (.ref 0), some (.int a1), some (.int a2), some (.int a3), some (.int a4), some (.int a5), some (.ref 108), none], [.int a3, .ref 62], D, E)) rfl ?_
        refine gv_if h (fun c0 h => ?_) (fun c0 h => ?_)
        · refine ev_ins hq rfl (S' := (31, [some (.ref 0), some (.int a1), some (.int a2), some (.int a3), some (.int a4), some (.int a5), some (.ref 108), none], [.ref 108], D, E)) (gv_sw (fun z => ((30, [some (.ref 0), some (.int a1), some (.int a2), some (.int a3), some (.int a4), some (.int a5), some (.ref 108), none], .int z :: [.ref 62], D, E) : mx_S)) c0 rfl) ?_
          refine gv_n hq 3 (S' := (38, [some (.ref 0), some (.int a1), some (.int a2), some (.int a3), some (.int a4), some (.int a5), some (.ref 108), some (.ref 108)], [.int (D 108 1)], D, E)) rfl ?_
          refine gv_b hq rfl h 49 41 rfl rfl rfl (fun h => ?_) (fun h => ?_)
          · refine gv_n hq 1 (S' := (51, [some (.ref 0), some (.int a1), some (.int a2), some (.int a3), some (.int a4), some (.int a5), some (.ref 108), some (.ref 108)], [.int (-6 : Int32)], D, E)) rfl ?_
            cases h
            exact ev_ret hq rfl rfl ⟨rfl, rfl, rfl⟩
          · refine gv_n hq 2 (S' := (46, [some (.ref 0), some (.int a1), some (.int a2), some (.int a3), some (.int a4), some (.int a5), some (.ref 108), some (.ref 108)], [.int (D 108 1)], D, E)) rfl ?_
            refine gv_b hq rfl h 49 52 rfl rfl rfl (fun h => ?_) (fun h => ?_)
            · refine gv_n hq 1 (S' := (51, [some (.ref 0), some (.int a1), some (.int a2), some (.int a3), some (.int a4), some (.int a5), some (.ref 108), some (.ref 108)], [.int (-6 : Int32)], D, E)) rfl ?_
              cases h
              exact ev_ret hq rfl rfl ⟨rfl, rfl, rfl⟩
            · refine gv_n hq 4 (S' := (62, [some (.ref 0), some (.int a1), some (.int a2), some (.int a3), some (.int a4), some (.int a5), some (.ref 108), some (.ref 108)], [.int (D 108 2), .int (D 108 2)], D, E)) rfl ?_
              refine gv_b hq rfl h 68 65 rfl rfl rfl (fun h => ?_) (fun h => ?_)
              · refine gv_n hq 3 (S' := (73, [some (.ref 0), some (.int a1), some (.int a2), some (.int a3), some (.int a4), some (.int a5), some (.ref 108), some (.ref 108)], [.int a5, .int a2, .ref 108], D, E)) rfl ?_
                refine gv_d hq rfl rfl rfl rfl rfl ((t_Row_holds_108 X d D E _ _ _ rfl)) (S' := (76, [some (.ref 0), some (.int a1), some (.int a2), some (.int a3), some (.int a4), some (.int a5), some (.ref 108), some (.ref 108)], [.int (g_Row_holds_108 D a2 a5)], D, E)) rfl ?_
                refine gv_b hq rfl h 91 79 rfl rfl rfl (fun h => ?_) (fun h => ?_)
                · refine gv_n hq 1 (S' := (93, [some (.ref 0), some (.int a1), some (.int a2), some (.int a3), some (.int a4), some (.int a5), some (.ref 108), some (.ref 108)], [.int (-7 : Int32)], D, E)) rfl ?_
                  cases h
                  exact ev_ret hq rfl rfl ⟨rfl, rfl, rfl⟩
                · refine gv_n hq 3 (S' := (85, [some (.ref 0), some (.int a1), some (.int a2), some (.int a3), some (.int a4), some (.int a5), some (.ref 108), some (.ref 108)], [.int a5, .int a4, .ref 108], D, E)) rfl ?_
                  refine gv_d hq rfl rfl rfl rfl rfl ((t_Row_holds_108 X d D E _ _ _ rfl)) (S' := (88, [some (.ref 0), some (.int a1), some (.int a2), some (.int a3), some (.int a4), some (.int a5), some (.ref 108), some (.ref 108)], [.int (g_Row_holds_108 D a4 a5)], D, E)) rfl ?_
                  refine gv_b hq rfl h 91 94 rfl rfl rfl (fun h => ?_) (fun h => ?_)
                  · refine gv_n hq 1 (S' := (93, [some (.ref 0), some (.int a1), some (.int a2), some (.int a3), some (.int a4), some (.int a5), some (.ref 108), some (.ref 108)], [.int (-7 : Int32)], D, E)) rfl ?_
                    cases h
                    exact ev_ret hq rfl rfl ⟨rfl, rfl, rfl⟩
                  · refine gv_n hq 7 (S' := (109, [some (.ref 0), some (.int a1), some (.int a2), some (.int a3), some (.int a4), some (.int a5), some (.ref 108), some (.ref 108)], [.int a5, .int a4, .ref 109, .int a2, .ref 109], D, E)) rfl ?_
                    refine gv_cp hq rfl h (S' := (112, [some (.ref 0), some (.int a1), some (.int a2), some (.int a3), some (.int a4), some (.int a5), some (.ref 108), some (.ref 108)], [], D, (cE E 109 109 (a2).toNatClampNeg (a4).toNatClampNeg (a5).toNatClampNeg))) rfl rfl (fun h => ?_)
                    refine gv_n hq 1 (S' := (113, [some (.ref 0), some (.int a1), some (.int a2), some (.int a3), some (.int a4), some (.int a5), some (.ref 108), some (.ref 108)], [.int (nI 0)], D, (cE E 109 109 (a2).toNatClampNeg (a4).toNatClampNeg (a5).toNatClampNeg))) rfl ?_
                    cases h
                    exact ev_ret hq rfl rfl ⟨rfl, rfl, rfl⟩
              · refine gv_n hq 1 (S' := (67, [some (.ref 0), some (.int a1), some (.int a2), some (.int a3), some (.int a4), some (.int a5), some (.ref 108), some (.ref 108)], [.int (-8 : Int32)], D, E)) rfl ?_
                cases h
                exact ev_ret hq rfl rfl ⟨rfl, rfl, rfl⟩
        · refine gv_if h (fun c1 h => ?_) (fun c1 h => ?_)
          · refine ev_ins hq rfl (S' := (31, [some (.ref 0), some (.int a1), some (.int a2), some (.int a3), some (.int a4), some (.int a5), some (.ref 108), none], [.ref 110], D, E)) (gv_sw (fun z => ((30, [some (.ref 0), some (.int a1), some (.int a2), some (.int a3), some (.int a4), some (.int a5), some (.ref 108), none], .int z :: [.ref 62], D, E) : mx_S)) c1 rfl) ?_
            refine gv_n hq 3 (S' := (38, [some (.ref 0), some (.int a1), some (.int a2), some (.int a3), some (.int a4), some (.int a5), some (.ref 108), some (.ref 110)], [.int (D 108 1)], D, E)) rfl ?_
            refine gv_b hq rfl h 49 41 rfl rfl rfl (fun h => ?_) (fun h => ?_)
            · refine gv_n hq 1 (S' := (51, [some (.ref 0), some (.int a1), some (.int a2), some (.int a3), some (.int a4), some (.int a5), some (.ref 108), some (.ref 110)], [.int (-6 : Int32)], D, E)) rfl ?_
              cases h
              exact ev_ret hq rfl rfl ⟨rfl, rfl, rfl⟩
            · refine gv_n hq 2 (S' := (46, [some (.ref 0), some (.int a1), some (.int a2), some (.int a3), some (.int a4), some (.int a5), some (.ref 108), some (.ref 110)], [.int (D 110 1)], D, E)) rfl ?_
              refine gv_b hq rfl h 49 52 rfl rfl rfl (fun h => ?_) (fun h => ?_)
              · refine gv_n hq 1 (S' := (51, [some (.ref 0), some (.int a1), some (.int a2), some (.int a3), some (.int a4), some (.int a5), some (.ref 108), some (.ref 110)], [.int (-6 : Int32)], D, E)) rfl ?_
                cases h
                exact ev_ret hq rfl rfl ⟨rfl, rfl, rfl⟩
              · refine gv_n hq 4 (S' := (62, [some (.ref 0), some (.int a1), some (.int a2), some (.int a3), some (.int a4), some (.int a5), some (.ref 108), some (.ref 110)], [.int (D 110 2), .int (D 108 2)], D, E)) rfl ?_
                refine gv_b hq rfl h 68 65 rfl rfl rfl (fun h => ?_) (fun h => ?_)
                · refine gv_n hq 3 (S' := (73, [some (.ref 0), some (.int a1), some (.int a2), some (.int a3), some (.int a4), some (.int a5), some (.ref 108), some (.ref 110)], [.int a5, .int a2, .ref 108], D, E)) rfl ?_
                  refine gv_d hq rfl rfl rfl rfl rfl ((t_Row_holds_108 X d D E _ _ _ rfl)) (S' := (76, [some (.ref 0), some (.int a1), some (.int a2), some (.int a3), some (.int a4), some (.int a5), some (.ref 108), some (.ref 110)], [.int (g_Row_holds_108 D a2 a5)], D, E)) rfl ?_
                  refine gv_b hq rfl h 91 79 rfl rfl rfl (fun h => ?_) (fun h => ?_)
                  · refine gv_n hq 1 (S' := (93, [some (.ref 0), some (.int a1), some (.int a2), some (.int a3), some (.int a4), some (.int a5), some (.ref 108), some (.ref 110)], [.int (-7 : Int32)], D, E)) rfl ?_
                    cases h
                    exact ev_ret hq rfl rfl ⟨rfl, rfl, rfl⟩
                  · refine gv_n hq 3 (S' := (85, [some (.ref 0), some (.int a1), some (.int a2), some (.int a3), some (.int a4), some (.int a5), some (.ref 108), some (.ref 110)], [.int a5, .int a4, .ref 110], D, E)) rfl ?_
                    refine gv_d hq rfl rfl rfl rfl rfl ((t_Row_holds_110 X d D E _ _ _ rfl)) (S' := (88, [some (.ref 0), some (.int a1), some (.int a2), some (.int a3), some (.int a4), some (.int a5), some (.ref 108), some (.ref 110)], [.int (g_Row_holds_110 D a4 a5)], D, E)) rfl ?_
                    refine gv_b hq rfl h 91 94 rfl rfl rfl (fun h => ?_) (fun h => ?_)
                    · refine gv_n hq 1 (S' := (93, [some (.ref 0), some (.int a1), some (.int a2), some (.int a3), some (.int a4), some (.int a5), some (.ref 108), some (.ref 110)], [.int (-7 : Int32)], D, E)) rfl ?_
                      cases h
                      exact ev_ret hq rfl rfl ⟨rfl, rfl, rfl⟩
                    · refine gv_n hq 7 (S' := (109, [some (.ref 0), some (.int a1), some (.int a2), some (.int a3), some (.int a4), some (.int a5), some (.ref 108), some (.ref 110)], [.int a5, .int a4, .ref 111, .int a2, .ref 109], D, E)) rfl ?_
                      refine gv_cp hq rfl h (S' := (112, [some (.ref 0), some (.int a1), some (.int a2), some (.int a3), some (.int a4), some (.int a5), some (.ref 108), some (.ref 110)], [], D, (cE E 109 111 (a2).toNatClampNeg (a4).toNatClampNeg (a5).toNatClampNeg))) rfl rfl (fun h => ?_)
                      refine gv_n hq 1 (S' := (113, [some (.ref 0), some (.int a1), some (.int a2), some (.int a3), some (.int a4), some (.int a5), some (.ref 108), some (.ref 110)], [.int (nI 0)], D, (cE E 109 111 (a2).toNatClampNeg (a4).toNatClampNeg (a5).toNatClampNeg))) rfl ?_
                      cases h
                      exact ev_ret hq rfl rfl ⟨rfl, rfl, rfl⟩
                · refine gv_n hq 1 (S' := (67, [some (.ref 0), some (.int a1), some (.int a2), some (.int a3), some (.int a4), some (.int a5), some (.ref 108), some (.ref 110)], [.int (-8 : Int32)], D, E)) rfl ?_
                  cases h
                  exact ev_ret hq rfl rfl ⟨rfl, rfl, rfl⟩
          · refine gv_if h (fun c2 h => ?_) (fun c2 h => ?_)
            · refine ev_ins hq rfl (S' := (31, [some (.ref 0), some (.int a1), some (.int a2), some (.int a3), some (.int a4), some (.int a5), some (.ref 108), none], [.ref 112], D, E)) (gv_sw (fun z => ((30, [some (.ref 0), some (.int a1), some (.int a2), some (.int a3), some (.int a4), some (.int a5), some (.ref 108), none], .int z :: [.ref 62], D, E) : mx_S)) c2 rfl) ?_
              refine gv_n hq 3 (S' := (38, [some (.ref 0), some (.int a1), some (.int a2), some (.int a3), some (.int a4), some (.int a5), some (.ref 108), some (.ref 112)], [.int (D 108 1)], D, E)) rfl ?_
              refine gv_b hq rfl h 49 41 rfl rfl rfl (fun h => ?_) (fun h => ?_)
              · refine gv_n hq 1 (S' := (51, [some (.ref 0), some (.int a1), some (.int a2), some (.int a3), some (.int a4), some (.int a5), some (.ref 108), some (.ref 112)], [.int (-6 : Int32)], D, E)) rfl ?_
                cases h
                exact ev_ret hq rfl rfl ⟨rfl, rfl, rfl⟩
              · refine gv_n hq 2 (S' := (46, [some (.ref 0), some (.int a1), some (.int a2), some (.int a3), some (.int a4), some (.int a5), some (.ref 108), some (.ref 112)], [.int (D 112 1)], D, E)) rfl ?_
                refine gv_b hq rfl h 49 52 rfl rfl rfl (fun h => ?_) (fun h => ?_)
                · refine gv_n hq 1 (S' := (51, [some (.ref 0), some (.int a1), some (.int a2), some (.int a3), some (.int a4), some (.int a5), some (.ref 108), some (.ref 112)], [.int (-6 : Int32)], D, E)) rfl ?_
                  cases h
                  exact ev_ret hq rfl rfl ⟨rfl, rfl, rfl⟩
                · refine gv_n hq 4 (S' := (62, [some (.ref 0), some (.int a1), some (.int a2), some (.int a3), some (.int a4), some (.int a5), some (.ref 108), some (.ref 112)], [.int (D 112 2), .int (D 108 2)], D, E)) rfl ?_
                  refine gv_b hq rfl h 68 65 rfl rfl rfl (fun h => ?_) (fun h => ?_)
                  · refine gv_n hq 3 (S' := (73, [some (.ref 0), some (.int a1), some (.int a2), some (.int a3), some (.int a4), some (.int a5), some (.ref 108), some (.ref 112)], [.int a5, .int a2, .ref 108], D, E)) rfl ?_
                    refine gv_d hq rfl rfl rfl rfl rfl ((t_Row_holds_108 X d D E _ _ _ rfl)) (S' := (76, [some (.ref 0), some (.int a1), some (.int a2), some (.int a3), some (.int a4), some (.int a5), some (.ref 108), some (.ref 112)], [.int (g_Row_holds_108 D a2 a5)], D, E)) rfl ?_
                    refine gv_b hq rfl h 91 79 rfl rfl rfl (fun h => ?_) (fun h => ?_)
                    · refine gv_n hq 1 (S' := (93, [some (.ref 0), some (.int a1), some (.int a2), some (.int a3), some (.int a4), some (.int a5), some (.ref 108), some (.ref 112)], [.int (-7 : Int32)], D, E)) rfl ?_
                      cases h
                      exact ev_ret hq rfl rfl ⟨rfl, rfl, rfl⟩
                    · refine gv_n hq 3 (S' := (85, [some (.ref 0), some (.int a1), some (.int a2), some (.int a3), some (.int a4), some (.int a5), some (.ref 108), some (.ref 112)], [.int a5, .int a4, .ref 112], D, E)) rfl ?_
                      refine gv_d hq rfl rfl rfl rfl rfl ((t_Row_holds_112 X d D E _ _ _ rfl)) (S' := (88, [some (.ref 0), some (.int a1), some (.int a2), some (.int a3), some (.int a4), some (.int a5), some (.ref 108), some (.ref 112)], [.int (g_Row_holds_112 D a4 a5)], D, E)) rfl ?_
                      refine gv_b hq rfl h 91 94 rfl rfl rfl (fun h => ?_) (fun h => ?_)
                      · refine gv_n hq 1 (S' := (93, [some (.ref 0), some (.int a1), some (.int a2), some (.int a3), some (.int a4), some (.int a5), some (.ref 108), some (.ref 112)], [.int (-7 : Int32)], D, E)) rfl ?_
                        cases h
                        exact ev_ret hq rfl rfl ⟨rfl, rfl, rfl⟩
                      · refine gv_n hq 7 (S' := (109, [some (.ref 0), some (.int a1), some (.int a2), some (.int a3), some (.int a4), some (.int a5), some (.ref 108), some (.ref 112)], [.int a5, .int a4, .ref 113, .int a2, .ref 109], D, E)) rfl ?_
                        refine gv_cp hq rfl h (S' := (112, [some (.ref 0), some (.int a1), some (.int a2), some (.int a3), some (.int a4), some (.int a5), some (.ref 108), some (.ref 112)], [], D, (cE E 109 113 (a2).toNatClampNeg (a4).toNatClampNeg (a5).toNatClampNeg))) rfl rfl (fun h => ?_)
                        refine gv_n hq 1 (S' := (113, [some (.ref 0), some (.int a1), some (.int a2), some (.int a3), some (.int a4), some (.int a5), some (.ref 108), some (.ref 112)], [.int (nI 0)], D, (cE E 109 113 (a2).toNatClampNeg (a4).toNatClampNeg (a5).toNatClampNeg))) rfl ?_
                        cases h
                        exact ev_ret hq rfl rfl ⟨rfl, rfl, rfl⟩
                  · refine gv_n hq 1 (S' := (67, [some (.ref 0), some (.int a1), some (.int a2), some (.int a3), some (.int a4), some (.int a5), some (.ref 108), some (.ref 112)], [.int (-8 : Int32)], D, E)) rfl ?_
                    cases h
                    exact ev_ret hq rfl rfl ⟨rfl, rfl, rfl⟩
            · refine gv_if h (fun c3 h => ?_) (fun c3 h => ?_)
              · refine ev_ins hq rfl (S' := (31, [some (.ref 0), some (.int a1), some (.int a2), some (.int a3), some (.int a4), some (.int a5), some (.ref 108), none], [.ref 114], D, E)) (gv_sw (fun z => ((30, [some (.ref 0), some (.int a1), some (.int a2), some (.int a3), some (.int a4), some (.int a5), some (.ref 108), none], .int z :: [.ref 62], D, E) : mx_S)) c3 rfl) ?_
                refine gv_n hq 3 (S' := (38, [some (.ref 0), some (.int a1), some (.int a2), some (.int a3), some (.int a4), some (.int a5), some (.ref 108), some (.ref 114)], [.int (D 108 1)], D, E)) rfl ?_
                refine gv_b hq rfl h 49 41 rfl rfl rfl (fun h => ?_) (fun h => ?_)
                · refine gv_n hq 1 (S' := (51, [some (.ref 0), some (.int a1), some (.int a2), some (.int a3), some (.int a4), some (.int a5), some (.ref 108), some (.ref 114)], [.int (-6 : Int32)], D, E)) rfl ?_
                  cases h
                  exact ev_ret hq rfl rfl ⟨rfl, rfl, rfl⟩
                · refine gv_n hq 2 (S' := (46, [some (.ref 0), some (.int a1), some (.int a2), some (.int a3), some (.int a4), some (.int a5), some (.ref 108), some (.ref 114)], [.int (D 114 1)], D, E)) rfl ?_
                  refine gv_b hq rfl h 49 52 rfl rfl rfl (fun h => ?_) (fun h => ?_)
                  · refine gv_n hq 1 (S' := (51, [some (.ref 0), some (.int a1), some (.int a2), some (.int a3), some (.int a4), some (.int a5), some (.ref 108), some (.ref 114)], [.int (-6 : Int32)], D, E)) rfl ?_
                    cases h
                    exact ev_ret hq rfl rfl ⟨rfl, rfl, rfl⟩
                  · refine gv_n hq 4 (S' := (62, [some (.ref 0), some (.int a1), some (.int a2), some (.int a3), some (.int a4), some (.int a5), some (.ref 108), some (.ref 114)], [.int (D 114 2), .int (D 108 2)], D, E)) rfl ?_
                    refine gv_b hq rfl h 68 65 rfl rfl rfl (fun h => ?_) (fun h => ?_)
                    · refine gv_n hq 3 (S' := (73, [some (.ref 0), some (.int a1), some (.int a2), some (.int a3), some (.int a4), some (.int a5), some (.ref 108), some (.ref 114)], [.int a5, .int a2, .ref 108], D, E)) rfl ?_
                      refine gv_d hq rfl rfl rfl rfl rfl ((t_Row_holds_108 X d D E _ _ _ rfl)) (S' := (76, [some (.ref 0), some (.int a1), some (.int a2), some (.int a3), some (.int a4), some (.int a5), some (.ref 108), some (.ref 114)], [.int (g_Row_holds_108 D a2 a5)], D, E)) rfl ?_
                      refine gv_b hq rfl h 91 79 rfl rfl rfl (fun h => ?_) (fun h => ?_)
                      · refine gv_n hq 1 (S' := (93, [some (.ref 0), some (.int a1), some (.int a2), some (.int a3), some (.int a4), some (.int a5), some (.ref 108), some (.ref 114)], [.int (-7 : Int32)], D, E)) rfl ?_
                        cases h
                        exact ev_ret hq rfl rfl ⟨rfl, rfl, rfl⟩
                      · refine gv_n hq 3 (S' := (85, [some (.ref 0), some (.int a1), some (.int a2), some (.int a3), some (.int a4), some (.int a5), some (.ref 108), some (.ref 114)], [.int a5, .int a4, .ref 114], D, E)) rfl ?_
                        refine gv_d hq rfl rfl rfl rfl rfl ((t_Row_holds_114 X d D E _ _ _ rfl)) (S' := (88, [some (.ref 0), some (.int a1), some (.int a2), some (.int a3), some (.int a4), some (.int a5), some (.ref 108), some (.ref 114)], [.int (g_Row_holds_114 D a4 a5)], D, E)) rfl ?_
                        refine gv_b hq rfl h 91 94 rfl rfl rfl (fun h => ?_) (fun h => ?_)
                        · refine gv_n hq 1 (S' := (93, [some (.ref 0), some (.int a1), some (.int a2), some (.int a3), some (.int a4), some (.int a5), some (.ref 108), some (.ref 114)], [.int (-7 : Int32)], D, E)) rfl ?_
                          cases h
                          exact ev_ret hq rfl rfl ⟨rfl, rfl, rfl⟩
                        · refine gv_n hq 7 (S' := (109, [some (.ref 0), some (.int a1), some (.int a2), some (.int a3), some (.int a4), some (.int a5), some (.ref 108), some (.ref 114)], [.int a5, .int a4, .ref 115, .int a2, .ref 109], D, E)) rfl ?_
                          refine gv_cp hq rfl h (S' := (112, [some (.ref 0), some (.int a1), some (.int a2), some (.int a3), some (.int a4), some (.int a5), some (.ref 108), some (.ref 114)], [], D, (cE E 109 115 (a2).toNatClampNeg (a4).toNatClampNeg (a5).toNatClampNeg))) rfl rfl (fun h => ?_)
                          refine gv_n hq 1 (S' := (113, [some (.ref 0), some (.int a1), some (.int a2), some (.int a3), some (.int a4), some (.int a5), some (.ref 108), some (.ref 114)], [.int (nI 0)], D, (cE E 109 115 (a2).toNatClampNeg (a4).toNatClampNeg (a5).toNatClampNeg))) rfl ?_
                          cases h
                          exact ev_ret hq rfl rfl ⟨rfl, rfl, rfl⟩
                    · refine gv_n hq 1 (S' := (67, [some (.ref 0), some (.int a1), some (.int a2), some (.int a3), some (.int a4), some (.int a5), some (.ref 108), some (.ref 114)], [.int (-8 : Int32)], D, E)) rfl ?_
                      cases h
                      exact ev_ret hq rfl rfl ⟨rfl, rfl, rfl⟩
              · cases h
      · refine gv_if h (fun c1 h => ?_) (fun c1 h => ?_)
        · refine ev_ins hq rfl (S' := (23, [some (.ref 0), some (.int a1), some (.int a2), some (.int a3), some (.int a4), some (.int a5), none, none], [.ref 110], D, E)) (gv_sw (fun z => ((22, [some (.ref 0), some (.int a1), some (.int a2), some (.int a3), some (.int a4), some (.int a5), none, none], .int z :: [.ref 62], D, E) : mx_S)) c1 rfl) ?_
          refine gv_n hq 4 (S' := (30, [some (.ref 0), some (.int a1), some (.int a2), some (.int a3), some (.int a4), some (.int a5), some (.ref 110), none], [.int a3, .ref 62], D, E)) rfl ?_
          refine gv_if h (fun c0 h => ?_) (fun c0 h => ?_)
          · refine ev_ins hq rfl (S' := (31, [some (.ref 0), some (.int a1), some (.int a2), some (.int a3), some (.int a4), some (.int a5), some (.ref 110), none], [.ref 108], D, E)) (gv_sw (fun z => ((30, [some (.ref 0), some (.int a1), some (.int a2), some (.int a3), some (.int a4), some (.int a5), some (.ref 110), none], .int z :: [.ref 62], D, E) : mx_S)) c0 rfl) ?_
            refine gv_n hq 3 (S' := (38, [some (.ref 0), some (.int a1), some (.int a2), some (.int a3), some (.int a4), some (.int a5), some (.ref 110), some (.ref 108)], [.int (D 110 1)], D, E)) rfl ?_
            refine gv_b hq rfl h 49 41 rfl rfl rfl (fun h => ?_) (fun h => ?_)
            · refine gv_n hq 1 (S' := (51, [some (.ref 0), some (.int a1), some (.int a2), some (.int a3), some (.int a4), some (.int a5), some (.ref 110), some (.ref 108)], [.int (-6 : Int32)], D, E)) rfl ?_
              cases h
              exact ev_ret hq rfl rfl ⟨rfl, rfl, rfl⟩
            · refine gv_n hq 2 (S' := (46, [some (.ref 0), some (.int a1), some (.int a2), some (.int a3), some (.int a4), some (.int a5), some (.ref 110), some (.ref 108)], [.int (D 108 1)], D, E)) rfl ?_
              refine gv_b hq rfl h 49 52 rfl rfl rfl (fun h => ?_) (fun h => ?_)
              · refine gv_n hq 1 (S' := (51, [some (.ref 0), some (.int a1), some (.int a2), some (.int a3), some (.int a4), some (.int a5), some (.ref 110), some (.ref 108)], [.int (-6 : Int32)], D, E)) rfl ?_
                cases h
                exact ev_ret hq rfl rfl ⟨rfl, rfl, rfl⟩
              · refine gv_n hq 4 (S' := (62, [some (.ref 0), some (.int a1), some (.int a2), some (.int a3), some (.int a4), some (.int a5), some (.ref 110), some (.ref 108)], [.int (D 108 2), .int (D 110 2)], D, E)) rfl ?_
                refine gv_b hq rfl h 68 65 rfl rfl rfl (fun h => ?_) (fun h => ?_)
                · refine gv_n hq 3 (S' := (73, [some (.ref 0), some (.int a1), some (.int a2), some (.int a3), some (.int a4), some (.int a5), some (.ref 110), some (.ref 108)], [.int a5, .int a2, .ref 110], D, E)) rfl ?_
                  refine gv_d hq rfl rfl rfl rfl rfl ((t_Row_holds_110 X d D E _ _ _ rfl)) (S' := (76, [some (.ref 0), some (.int a1), some (.int a2), some (.int a3), some (.int a4), some (.int a5), some (.ref 110), some (.ref 108)], [.int (g_Row_holds_110 D a2 a5)], D, E)) rfl ?_
                  refine gv_b hq rfl h 91 79 rfl rfl rfl (fun h => ?_) (fun h => ?_)
                  · refine gv_n hq 1 (S' := (93, [some (.ref 0), some (.int a1), some (.int a2), some (.int a3), some (.int a4), some (.int a5), some (.ref 110), some (.ref 108)], [.int (-7 : Int32)], D, E)) rfl ?_
                    cases h
                    exact ev_ret hq rfl rfl ⟨rfl, rfl, rfl⟩
                  · refine gv_n hq 3 (S' := (85, [some (.ref 0), some (.int a1), some (.int a2), some (.int a3), some (.int a4), some (.int a5), some (.ref 110), some (.ref 108)], [.int a5, .int a4, .ref 108], D, E)) rfl ?_
                    refine gv_d hq rfl rfl rfl rfl rfl ((t_Row_holds_108 X d D E _ _ _ rfl)) (S' := (88, [some (.ref 0), some (.int a1), some (.int a2), some (.int a3), some (.int a4), some (.int a5), some (.ref 110), some (.ref 108)], [.int (g_Row_holds_108 D a4 a5)], D, E)) rfl ?_
                    refine gv_b hq rfl h 91 94 rfl rfl rfl (fun h => ?_) (fun h => ?_)
                    · refine gv_n hq 1 (S' := (93, [some (.ref 0), some (.int a1), some (.int a2), some (.int a3), some (.int a4), some (.int a5), some (.ref 110), some (.ref 108)], [.int (-7 : Int32)], D, E)) rfl ?_
                      cases h
                      exact ev_ret hq rfl rfl ⟨rfl, rfl, rfl⟩
                    · refine gv_n hq 7 (S' := (109, [some (.ref 0), some (.int a1), some (.int a2), some (.int a3), some (.int a4), some (.int a5), some (.ref 110), some (.ref 108)], [.int a5, .int a4, .ref 109, .int a2, .ref 111], D, E)) rfl ?_
                      refine gv_cp hq rfl h (S' := (112, [some (.ref 0), some (.int a1), some (.int a2), some (.int a3), some (.int a4), some (.int a5), some (.ref 110), some (.ref 108)], [], D, (cE E 111 109 (a2).toNatClampNeg (a4).toNatClampNeg (a5).toNatClampNeg))) rfl rfl (fun h => ?_)
                      refine gv_n hq 1 (S' := (113, [some (.ref 0), some (.int a1), some (.int a2), some (.int a3), some (.int a4), some (.int a5), some (.ref 110), some (.ref 108)], [.int (nI 0)], D, (cE E 111 109 (a2).toNatClampNeg (a4).toNatClampNeg (a5).toNatClampNeg))) rfl ?_
                      cases h
                      exact ev_ret hq rfl rfl ⟨rfl, rfl, rfl⟩
                · refine gv_n hq 1 (S' := (67, [some (.ref 0), some (.int a1), some (.int a2), some (.int a3), some (.int a4), some (.int a5), some (.ref 110), some (.ref 108)], [.int (-8 : Int32)], D, E)) rfl ?_
                  cases h
                  exact ev_ret hq rfl rfl ⟨rfl, rfl, rfl⟩
          · refine gv_if h (fun c1 h => ?_) (fun c1 h => ?_)
            · refine ev_ins hq rfl (S' := (31, [some (.ref 0), some (.int a1), some (.int a2), some (.int a3), some (.int a4), some (.int a5), some (.ref 110), none], [.ref 110], D, E)) (gv_sw (fun z => ((30, [some (.ref 0), some (.int a1), some (.int a2), some (.int a3), some (.int a4), some (.int a5), some (.ref 110), none], .int z :: [.ref 62], D, E) : mx_S)) c1 rfl) ?_
              refine gv_n hq 3 (S' := (38, [some (.ref 0), some (.int a1), some (.int a2), some (.int a3), some (.int a4), some (.int a5), some (.ref 110), some (.ref 110)], [.int (D 110 1)], D, E)) rfl ?_
              refine gv_b hq rfl h 49 41 rfl rfl rfl (fun h => ?_) (fun h => ?_)
              · refine gv_n hq 1 (S' := (51, [some (.ref 0), some (.int a1), some (.int a2), some (.int a3), some (.int a4), some (.int a5), some (.ref 110), some (.ref 110)], [.int (-6 : Int32)], D, E)) rfl ?_
                cases h
                exact ev_ret hq rfl rfl ⟨rfl, rfl, rfl⟩
              · refine gv_n hq 2 (S' := (46, [some (.ref 0), some (.int a1), some (.int a2), some (.int a3), some (.int a4), some (.int a5), some (.ref 110), some (.ref 110)], [.int (D 110 1)], D, E)) rfl ?_
                refine gv_b hq rfl h 49 52 rfl rfl rfl (fun h => ?_) (fun h => ?_)
                · refine gv_n hq 1 (S' := (51, [some (.ref 0), some (.int a1), some (.int a2), some (.int a3), some (.int a4), some (.int a5), some (.ref 110), some (.ref 110)], [.int (-6 : Int32)], D, E)) rfl ?_
                  cases h
                  exact ev_ret hq rfl rfl ⟨rfl, rfl, rfl⟩
                · refine gv_n hq 4 (S' := (62, [some (.ref 0), some (.int a1), some (.int a2), some (.int a3), some (.int a4), some (.int a5), some (.ref 110), some (.ref 110)], [.int (D 110 2), .int (D 110 2)], D, E)) rfl ?_
                  refine gv_b hq rfl h 68 65 rfl rfl rfl (fun h => ?_) (fun h => ?_)
                  · refine gv_n hq 3 (S' := (73, [some (.ref 0), some (.int a1), some (.int a2), some (.int a3), some (.int a4), some (.int a5), some (.ref 110), some (.ref 110)], [.int a5, .int a2, .ref 110], D, E)) rfl ?_
                    refine gv_d hq rfl rfl rfl rfl rfl ((t_Row_holds_110 X d D E _ _ _ rfl)) (S' := (76, [some (.ref 0), some (.int a1), some (.int a2), some (.int a3), some (.int a4), some (.int a5), some (.ref 110), some (.ref 110)], [.int (g_Row_holds_110 D a2 a5)], D, E)) rfl ?_
                    refine gv_b hq rfl h 91 79 rfl rfl rfl (fun h => ?_) (fun h => ?_)
                    · refine gv_n hq 1 (S' := (93, [some (.ref 0), some (.int a1), some (.int a2), some (.int a3), some (.int a4), some (.int a5), some (.ref 110), some (.ref 110)], [.int (-7 : Int32)], D, E)) rfl ?_
                      cases h
                      exact ev_ret hq rfl rfl ⟨rfl, rfl, rfl⟩
                    · refine gv_n hq 3 (S' := (85, [some (.ref 0), some (.int a1), some (.int a2), some (.int a3), some (.int a4), some (.int a5), some (.ref 110), some (.ref 110)], [.int a5, .int a4, .ref 110], D, E)) rfl ?_
                      refine gv_d hq rfl rfl rfl rfl rfl ((t_Row_holds_110 X d D E _ _ _ rfl)) (S' := (88, [some (.ref 0), some (.int a1), some (.int a2), some (.int a3), some (.int a4), some (.int a5), some (.ref 110), some (.ref 110)], [.int (g_Row_holds_110 D a4 a5)], D, E)) rfl ?_
                      refine gv_b hq rfl h 91 94 rfl rfl rfl (fun h => ?_) (fun h => ?_)
                      · refine gv_n hq 1 (S' := (93, [some (.ref 0), some (.int a1), some (.int a2), some (.int a3), some (.int a4), some (.int a5), some (.ref 110), some (.ref 110)], [.int (-7 : Int32)], D, E)) rfl ?_
                        cases h
                        exact ev_ret hq rfl rfl ⟨rfl, rfl, rfl⟩
                      · refine gv_n hq 7 (S' := (109, [some (.ref 0), some (.int a1), some (.int a2), some (.int a3), some (.int a4), some (.int a5), some (.ref 110), some (.ref 110)], [.int a5, .int a4, .ref 111, .int a2, .ref 111], D, E)) rfl ?_
                        refine gv_cp hq rfl h (S' := (112, [some (.ref 0), some (.int a1), some (.int a2), some (.int a3), some (.int a4), some (.int a5), some (.ref 110), some (.ref 110)], [], D, (cE E 111 111 (a2).toNatClampNeg (a4).toNatClampNeg (a5).toNatClampNeg))) rfl rfl (fun h => ?_)
                        refine gv_n hq 1 (S' := (113, [some (.ref 0), some (.int a1), some (.int a2), some (.int a3), some (.int a4), some (.int a5), some (.ref 110), some (.ref 110)], [.int (nI 0)], D, (cE E 111 111 (a2).toNatClampNeg (a4).toNatClampNeg (a5).toNatClampNeg))) rfl ?_
                        cases h
                        exact ev_ret hq rfl rfl ⟨rfl, rfl, rfl⟩
                  · refine gv_n hq 1 (S' := (67, [some (.ref 0), some (.int a1), some (.int a2), some (.int a3), some (.int a4), some (.int a5), some (.ref 110), some (.ref 110)], [.int (-8 : Int32)], D, E)) rfl ?_
                    cases h
                    exact ev_ret hq rfl rfl ⟨rfl, rfl, rfl⟩
            · refine gv_if h (fun c2 h => ?_) (fun c2 h => ?_)
              · refine ev_ins hq rfl (S' := (31, [some (.ref 0), some (.int a1), some (.int a2), some (.int a3), some (.int a4), some (.int a5), some (.ref 110), none], [.ref 112], D, E)) (gv_sw (fun z => ((30, [some (.ref 0), some (.int a1), some (.int a2), some (.int a3), some (.int a4), some (.int a5), some (.ref 110), none], .int z :: [.ref 62], D, E) : mx_S)) c2 rfl) ?_
                refine gv_n hq 3 (S' := (38, [some (.ref 0), some (.int a1), some (.int a2), some (.int a3), some (.int a4), some (.int a5), some (.ref 110), some (.ref 112)], [.int (D 110 1)], D, E)) rfl ?_
                refine gv_b hq rfl h 49 41 rfl rfl rfl (fun h => ?_) (fun h => ?_)
                · refine gv_n hq 1 (S' := (51, [some (.ref 0), some (.int a1), some (.int a2), some (.int a3), some (.int a4), some (.int a5), some (.ref 110), some (.ref 112)], [.int (-6 : Int32)], D, E)) rfl ?_
                  cases h
                  exact ev_ret hq rfl rfl ⟨rfl, rfl, rfl⟩
                · refine gv_n hq 2 (S' := (46, [some (.ref 0), some (.int a1), some (.int a2), some (.int a3), some (.int a4), some (.int a5), some (.ref 110), some (.ref 112)], [.int (D 112 1)], D, E)) rfl ?_
                  refine gv_b hq rfl h 49 52 rfl rfl rfl (fun h => ?_) (fun h => ?_)
                  · refine gv_n hq 1 (S' := (51, [some (.ref 0), some (.int a1), some (.int a2), some (.int a3), some (.int a4), some (.int a5), some (.ref 110), some (.ref 112)], [.int (-6 : Int32)], D, E)) rfl ?_
                    cases h
                    exact ev_ret hq rfl rfl ⟨rfl, rfl, rfl⟩
                  · refine gv_n hq 4 (S' := (62, [some (.ref 0), some (.int a1), some (.int a2), some (.int a3), some (.int a4), some (.int a5), some (.ref 110), some (.ref 112)], [.int (D 112 2), .int (D 110 2)], D, E)) rfl ?_
                    refine gv_b hq rfl h 68 65 rfl rfl rfl (fun h => ?_) (fun h => ?_)
                    · refine gv_n hq 3 (S' := (73, [some (.ref 0), some (.int a1), some (.int a2), some (.int a3), some (.int a4), some (.int a5), some (.ref 110), some (.ref 112)], [.int a5, .int a2, .ref 110], D, E)) rfl ?_
                      refine gv_d hq rfl rfl rfl rfl rfl ((t_Row_holds_110 X d D E _ _ _ rfl)) (S' := (76, [some (.ref 0), some (.int a1), some (.int a2), some (.int a3), some (.int a4), some (.int a5), some (.ref 110), some (.ref 112)], [.int (g_Row_holds_110 D a2 a5)], D, E)) rfl ?_
                      refine gv_b hq rfl h 91 79 rfl rfl rfl (fun h => ?_) (fun h => ?_)
                      · refine gv_n hq 1 (S' := (93, [some (.ref 0), some (.int a1), some (.int a2), some (.int a3), some (.int a4), some (.int a5), some (.ref 110), some (.ref 112)], [.int (-7 : Int32)], D, E)) rfl ?_
                        cases h
                        exact ev_ret hq rfl rfl ⟨rfl, rfl, rfl⟩
                      · refine gv_n hq 3 (S' := (85, [some (.ref 0), some (.int a1), some (.int a2), some (.int a3), some (.int a4), some (.int a5), some (.ref 110), some (.ref 112)], [.int a5, .int a4, .ref 112], D, E)) rfl ?_
                        refine gv_d hq rfl rfl rfl rfl rfl ((t_Row_holds_112 X d D E _ _ _ rfl)) (S' := (88, [some (.ref 0), some (.int a1), some (.int a2), some (.int a3), some (.int a4), some (.int a5), some (.ref 110), some (.ref 112)], [.int (g_Row_holds_112 D a4 a5)], D, E)) rfl ?_
                        refine gv_b hq rfl h 91 94 rfl rfl rfl (fun h => ?_) (fun h => ?_)
                        · refine gv_n hq 1 (S' := (93, [some (.ref 0), some (.int a1), some (.int a2), some (.int a3), some (.int a4), some (.int a5), some (.ref 110), some (.ref 112)], [.int (-7 : Int32)], D, E)) rfl ?_
                          cases h
                          exact ev_ret hq rfl rfl ⟨rfl, rfl, rfl⟩
                        · refine gv_n hq 7 (S' := (109, [some (.ref 0), some (.int a1), some (.int a2), some (.int a3), some (.int a4), some (.int a5), some (.ref 110), some (.ref 112)], [.int a5, .int a4, .ref 113, .int a2, .ref 111], D, E)) rfl ?_
                          refine gv_cp hq rfl h (S' := (112, [some (.ref 0), some (.int a1), some (.int a2), some (.int a3), some (.int a4), some (.int a5), some (.ref 110), some (.ref 112)], [], D, (cE E 111 113 (a2).toNatClampNeg (a4).toNatClampNeg (a5).toNatClampNeg))) rfl rfl (fun h => ?_)
                          refine gv_n hq 1 (S' := (113, [some (.ref 0), some (.int a1), some (.int a2), some (.int a3), some (.int a4), some (.int a5), some (.ref 110), some (.ref 112)], [.int (nI 0)], D, (cE E 111 113 (a2).toNatClampNeg (a4).toNatClampNeg (a5).toNatClampNeg))) rfl ?_
                          cases h
                          exact ev_ret hq rfl rfl ⟨rfl, rfl, rfl⟩
                    · refine gv_n hq 1 (S' := (67, [some (.ref 0), some (.int a1), some (.int a2), some (.int a3), some (.int a4), some (.int a5), some (.ref 110), some (.ref 112)], [.int (-8 : Int32)], D, E)) rfl ?_
                      cases h
                      exact ev_ret hq rfl rfl ⟨rfl, rfl, rfl⟩
              · refine gv_if h (fun c3 h => ?_) (fun c3 h => ?_)
                · refine ev_ins hq rfl (S' := (31, [some (.ref 0), some (.int a1), some (.int a2), some (.int a3), some (.int a4), some (.int a5), some (.ref 110), none], [.ref 114], D, E)) (gv_sw (fun z => ((30, [some (.ref 0), some (.int a1), some (.int a2), some (.int a3), some (.int a4), some (.int a5), some (.ref 110), none], .int z :: [.ref 62], D, E) : mx_S)) c3 rfl) ?_
                  refine gv_n hq 3 (S' := (38, [some (.ref 0), some (.int a1), some (.int a2), some (.int a3), some (.int a4), some (.int a5), some (.ref 110), some (.ref 114)], [.int (D 110 1)], D, E)) rfl ?_
                  refine gv_b hq rfl h 49 41 rfl rfl rfl (fun h => ?_) (fun h => ?_)
                  · refine gv_n hq 1 (S' := (51, [some (.ref 0), some (.int a1), some (.int a2), some (.int a3), some (.int a4), some (.int a5), some (.ref 110), some (.ref 114)], [.int (-6 : Int32)], D, E)) rfl ?_
                    cases h
                    exact ev_ret hq rfl rfl ⟨rfl, rfl, rfl⟩
                  · refine gv_n hq 2 (S' := (46, [some (.ref 0), some (.int a1), some (.int a2), some (.int a3), some (.int a4), some (.int a5), some (.ref 110), some (.ref 114)], [.int (D 114 1)], D, E)) rfl ?_
                    refine gv_b hq rfl h 49 52 rfl rfl rfl (fun h => ?_) (fun h => ?_)
                    · refine gv_n hq 1 (S' := (51, [some (.ref 0), some (.int a1), some (.int a2), some (.int a3), some (.int a4), some (.int a5), some (.ref 110), some (.ref 114)], [.int (-6 : Int32)], D, E)) rfl ?_
                      cases h
                      exact ev_ret hq rfl rfl ⟨rfl, rfl, rfl⟩
                    · refine gv_n hq 4 (S' := (62, [some (.ref 0), some (.int a1), some (.int a2), some (.int a3), some (.int a4), some (.int a5), some (.ref 110), some (.ref 114)], [.int (D 114 2), .int (D 110 2)], D, E)) rfl ?_
                      refine gv_b hq rfl h 68 65 rfl rfl rfl (fun h => ?_) (fun h => ?_)
                      · refine gv_n hq 3 (S' := (73, [some (.ref 0), some (.int a1), some (.int a2), some (.int a3), some (.int a4), some (.int a5), some (.ref 110), some (.ref 114)], [.int a5, .int a2, .ref 110], D, E)) rfl ?_
                        refine gv_d hq rfl rfl rfl rfl rfl ((t_Row_holds_110 X d D E _ _ _ rfl)) (S' := (76, [some (.ref 0), some (.int a1), some (.int a2), some (.int a3), some (.int a4), some (.int a5), some (.ref 110), some (.ref 114)], [.int (g_Row_holds_110 D a2 a5)], D, E)) rfl ?_
                        refine gv_b hq rfl h 91 79 rfl rfl rfl (fun h => ?_) (fun h => ?_)
                        · refine gv_n hq 1 (S' := (93, [some (.ref 0), some (.int a1), some (.int a2), some (.int a3), some (.int a4), some (.int a5), some (.ref 110), some (.ref 114)], [.int (-7 : Int32)], D, E)) rfl ?_
                          cases h
                          exact ev_ret hq rfl rfl ⟨rfl, rfl, rfl⟩
                        · refine gv_n hq 3 (S' := (85, [some (.ref 0), some (.int a1), some (.int a2), some (.int a3), some (.int a4), some (.int a5), some (.ref 110), some (.ref 114)], [.int a5, .int a4, .ref 114], D, E)) rfl ?_
                          refine gv_d hq rfl rfl rfl rfl rfl ((t_Row_holds_114 X d D E _ _ _ rfl)) (S' := (88, [some (.ref 0), some (.int a1), some (.int a2), some (.int a3), some (.int a4), some (.int a5), some (.ref 110), some (.ref 114)], [.int (g_Row_holds_114 D a4 a5)], D, E)) rfl ?_
                          refine gv_b hq rfl h 91 94 rfl rfl rfl (fun h => ?_) (fun h => ?_)
                          · refine gv_n hq 1 (S' := (93, [some (.ref 0), some (.int a1), some (.int a2), some (.int a3), some (.int a4), some (.int a5), some (.ref 110), some (.ref 114)], [.int (-7 : Int32)], D, E)) rfl ?_
                            cases h
                            exact ev_ret hq rfl rfl ⟨rfl, rfl, rfl⟩
                          · refine gv_n hq 7 (S' := (109, [some (.ref 0), some (.int a1), some (.int a2), some (.int a3), some (.int a4), some (.int a5), some (.ref 110), some (.ref 114)], [.int a5, .int a4, .ref 115, .int a2, .ref 111], D, E)) rfl ?_
                            refine gv_cp hq rfl h (S' := (112, [some (.ref 0), some (.int a1), some (.int a2), some (.int a3), some (.int a4), some (.int a5), some (.ref 110), some (.ref 114)], [], D, (cE E 111 115 (a2).toNatClampNeg (a4).toNatClampNeg (a5).toNatClampNeg))) rfl rfl (fun h => ?_)
                            refine gv_n hq 1 (S' := (113, [some (.ref 0), some (.int a1), some (.int a2), some (.int a3), some (.int a4), some (.int a5), some (.ref 110), some (.ref 114)], [.int (nI 0)], D, (cE E 111 115 (a2).toNatClampNeg (a4).toNatClampNeg (a5).toNatClampNeg))) rfl ?_
                            cases h
                            exact ev_ret hq rfl rfl ⟨rfl, rfl, rfl⟩
                      · refine gv_n hq 1 (S' := (67, [some (.ref 0), some (.int a1), some (.int a2), some (.int a3), some (.int a4), some (.int a5), some (.ref 110), some (.ref 114)], [.int (-8 : Int32)], D, E)) rfl ?_
                        cases h
                        exact ev_ret hq rfl rfl ⟨rfl, rfl, rfl⟩
                · cases h
        · refine gv_if h (fun c2 h => ?_) (fun c2 h => ?_)
          · refine ev_ins hq rfl (S' := (23, [some (.ref 0), some (.int a1), some (.int a2), some (.int a3), some (.int a4), some (.int a5), none, none], [.ref 112], D, E)) (gv_sw (fun z => ((22, [some (.ref 0), some (.int a1), some (.int a2), some (.int a3), some (.int a4), some (.int a5), none, none], .int z :: [.ref 62], D, E) : mx_S)) c2 rfl) ?_
            refine gv_n hq 4 (S' := (30, [some (.ref 0), some (.int a1), some (.int a2), some (.int a3), some (.int a4), some (.int a5), some (.ref 112), none], [.int a3, .ref 62], D, E)) rfl ?_
            refine gv_if h (fun c0 h => ?_) (fun c0 h => ?_)
            · refine ev_ins hq rfl (S' := (31, [some (.ref 0), some (.int a1), some (.int a2), some (.int a3), some (.int a4), some (.int a5), some (.ref 112), none], [.ref 108], D, E)) (gv_sw (fun z => ((30, [some (.ref 0), some (.int a1), some (.int a2), some (.int a3), some (.int a4), some (.int a5), some (.ref 112), none], .int z :: [.ref 62], D, E) : mx_S)) c0 rfl) ?_
              refine gv_n hq 3 (S' := (38, [some (.ref 0), some (.int a1), some (.int a2), some (.int a3), some (.int a4), some (.int a5), some (.ref 112), some (.ref 108)], [.int (D 112 1)], D, E)) rfl ?_
              refine gv_b hq rfl h 49 41 rfl rfl rfl (fun h => ?_) (fun h => ?_)
              · refine gv_n hq 1 (S' := (51, [some (.ref 0), some (.int a1), some (.int a2), some (.int a3), some (.int a4), some (.int a5), some (.ref 112), some (.ref 108)], [.int (-6 : Int32)], D, E)) rfl ?_
                cases h
                exact ev_ret hq rfl rfl ⟨rfl, rfl, rfl⟩
              · refine gv_n hq 2 (S' := (46, [some (.ref 0), some (.int a1), some (.int a2), some (.int a3), some (.int a4), some (.int a5), some (.ref 112), some (.ref 108)], [.int (D 108 1)], D, E)) rfl ?_
                refine gv_b hq rfl h 49 52 rfl rfl rfl (fun h => ?_) (fun h => ?_)
                · refine gv_n hq 1 (S' := (51, [some (.ref 0), some (.int a1), some (.int a2), some (.int a3), some (.int a4), some (.int a5), some (.ref 112), some (.ref 108)], [.int (-6 : Int32)], D, E)) rfl ?_
                  cases h
                  exact ev_ret hq rfl rfl ⟨rfl, rfl, rfl⟩
                · refine gv_n hq 4 (S' := (62, [some (.ref 0), some (.int a1), some (.int a2), some (.int a3), some (.int a4), some (.int a5), some (.ref 112), some (.ref 108)], [.int (D 108 2), .int (D 112 2)], D, E)) rfl ?_
                  refine gv_b hq rfl h 68 65 rfl rfl rfl (fun h => ?_) (fun h => ?_)
                  · refine gv_n hq 3 (S' := (73, [some (.ref 0), some (.int a1), some (.int a2), some (.int a3), some (.int a4), some (.int a5), some (.ref 112), some (.ref 108)], [.int a5, .int a2, .ref 112], D, E)) rfl ?_
                    refine gv_d hq rfl rfl rfl rfl rfl ((t_Row_holds_112 X d D E _ _ _ rfl)) (S' := (76, [some (.ref 0), some (.int a1), some (.int a2), some (.int a3), some (.int a4), some (.int a5), some (.ref 112), some (.ref 108)], [.int (g_Row_holds_112 D a2 a5)], D, E)) rfl ?_
                    refine gv_b hq rfl h 91 79 rfl rfl rfl (fun h => ?_) (fun h => ?_)
                    · refine gv_n hq 1 (S' := (93, [some (.ref 0), some (.int a1), some (.int a2), some (.int a3), some (.int a4), some (.int a5), some (.ref 112), some (.ref 108)], [.int (-7 : Int32)], D, E)) rfl ?_
                      cases h
                      exact ev_ret hq rfl rfl ⟨rfl, rfl, rfl⟩
                    · refine gv_n hq 3 (S' := (85, [some (.ref 0), some (.int a1), some (.int a2), some (.int a3), some (.int a4), some (.int a5), some (.ref 112), some (.ref 108)], [.int a5, .int a4, .ref 108], D, E)) rfl ?_
                      refine gv_d hq rfl rfl rfl rfl rfl ((t_Row_holds_108 X d D E _ _ _ rfl)) (S' := (88, [some (.ref 0), some (.int a1), some (.int a2), some (.int a3), some (.int a4), some (.int a5), some (.ref 112), some (.ref 108)], [.int (g_Row_holds_108 D a4 a5)], D, E)) rfl ?_
                      refine gv_b hq rfl h 91 94 rfl rfl rfl (fun h => ?_) (fun h => ?_)
                      · refine gv_n hq 1 (S' := (93, [some (.ref 0), some (.int a1), some (.int a2), some (.int a3), some (.int a4), some (.int a5), some (.ref 112), some (.ref 108)], [.int (-7 : Int32)], D, E)) rfl ?_
                        cases h
                        exact ev_ret hq rfl rfl ⟨rfl, rfl, rfl⟩
                      · refine gv_n hq 7 (S' := (109, [some (.ref 0), some (.int a1), some (.int a2), some (.int a3), some (.int a4), some (.int a5), some (.ref 112), some (.ref 108)], [.int a5, .int a4, .ref 109, .int a2, .ref 113], D, E)) rfl ?_
                        refine gv_cp hq rfl h (S' := (112, [some (.ref 0), some (.int a1), some (.int a2), some (.int a3), some (.int a4), some (.int a5), some (.ref 112), some (.ref 108)], [], D, (cE E 113 109 (a2).toNatClampNeg (a4).toNatClampNeg (a5).toNatClampNeg))) rfl rfl (fun h => ?_)
                        refine gv_n hq 1 (S' := (113, [some (.ref 0), some (.int a1), some (.int a2), some (.int a3), some (.int a4), some (.int a5), some (.ref 112), some (.ref 108)], [.int (nI 0)], D, (cE E 113 109 (a2).toNatClampNeg (a4).toNatClampNeg (a5).toNatClampNeg))) rfl ?_
                        cases h
                        exact ev_ret hq rfl rfl ⟨rfl, rfl, rfl⟩
                  · refine gv_n hq 1 (S' := (67, [some (.ref 0), some (.int a1), some (.int a2), some (.int a3), some (.int a4), some (.int a5), some (.ref 112), some (.ref 108)], [.int (-8 : Int32)], D, E)) rfl ?_
                    cases h
                    exact ev_ret hq rfl rfl ⟨rfl, rfl, rfl⟩
            · refine gv_if h (fun c1 h => ?_) (fun c1 h => ?_)
              · refine ev_ins hq rfl (S' := (31, [some (.ref 0), some (.int a1), some (.int a2), some (.int a3), some (.int a4), some (.int a5), some (.ref 112), none], [.ref 110], D, E)) (gv_sw (fun z => ((30, [some (.ref 0), some (.int a1), some (.int a2), some (.int a3), some (.int a4), some (.int a5), some (.ref 112), none], .int z :: [.ref 62], D, E) : mx_S)) c1 rfl) ?_
                refine gv_n hq 3 (S' := (38, [some (.ref 0), some (.int a1), some (.int a2), some (.int a3), some (.int a4), some (.int a5), some (.ref 112), some (.ref 110)], [.int (D 112 1)], D, E)) rfl ?_
                refine gv_b hq rfl h 49 41 rfl rfl rfl (fun h => ?_) (fun h => ?_)
                · refine gv_n hq 1 (S' := (51, [some (.ref 0), some (.int a1), some (.int a2), some (.int a3), some (.int a4), some (.int a5), some (.ref 112), some (.ref 110)], [.int (-6 : Int32)], D, E)) rfl ?_
                  cases h
                  exact ev_ret hq rfl rfl ⟨rfl, rfl, rfl⟩
                · refine gv_n hq 2 (S' := (46, [some (.ref 0), some (.int a1), some (.int a2), some (.int a3), some (.int a4), some (.int a5), some (.ref 112), some (.ref 110)], [.int (D 110 1)], D, E)) rfl ?_
                  refine gv_b hq rfl h 49 52 rfl rfl rfl (fun h => ?_) (fun h => ?_)
                  · refine gv_n hq 1 (S' := (51, [some (.ref 0), some (.int a1), some (.int a2), some (.int a3), some (.int a4), some (.int a5), some (.ref 112), some (.ref 110)], [.int (-6 : Int32)], D, E)) rfl ?_
                    cases h
                    exact ev_ret hq rfl rfl ⟨rfl, rfl, rfl⟩
                  · refine gv_n hq 4 (S' := (62, [some (.ref 0), some (.int a1), some (.int a2), some (.int a3), some (.int a4), some (.int a5), some (.ref 112), some (.ref 110)], [.int (D 110 2), .int (D 112 2)], D, E)) rfl ?_
                    refine gv_b hq rfl h 68 65 rfl rfl rfl (fun h => ?_) (fun h => ?_)
                    · refine gv_n hq 3 (S' := (73, [some (.ref 0), some (.int a1), some (.int a2), some (.int a3), some (.int a4), some (.int a5), some (.ref 112), some (.ref 110)], [.int a5, .int a2, .ref 112], D, E)) rfl ?_
                      refine gv_d hq rfl rfl rfl rfl rfl ((t_Row_holds_112 X d D E _ _ _ rfl)) (S' := (76, [some (.ref 0), some (.int a1), some (.int a2), some (.int a3), some (.int a4), some (.int a5), some (.ref 112), some (.ref 110)], [.int (g_Row_holds_112 D a2 a5)], D, E)) rfl ?_
                      refine gv_b hq rfl h 91 79 rfl rfl rfl (fun h => ?_) (fun h => ?_)
                      · refine gv_n hq 1 (S' := (93, [some (.ref 0), some (.int a1), some (.int a2), some (.int a3), some (.int a4), some (.int a5), some (.ref 112), some (.ref 110)], [.int (-7 : Int32)], D, E)) rfl ?_
                        cases h
                        exact ev_ret hq rfl rfl ⟨rfl, rfl, rfl⟩
                      · refine gv_n hq 3 (S' := (85, [some (.ref 0), some (.int a1), some (.int a2), some (.int a3), some (.int a4), some (.int a5), some (.ref 112), some (.ref 110)], [.int a5, .int a4, .ref 110], D, E)) rfl ?_
                        refine gv_d hq rfl rfl rfl rfl rfl ((t_Row_holds_110 X d D E _ _ _ rfl)) (S' := (88, [some (.ref 0), some (.int a1), some (.int a2), some (.int a3), some (.int a4), some (.int a5), some (.ref 112), some (.ref 110)], [.int (g_Row_holds_110 D a4 a5)], D, E)) rfl ?_
                        refine gv_b hq rfl h 91 94 rfl rfl rfl (fun h => ?_) (fun h => ?_)
                        · refine gv_n hq 1 (S' := (93, [some (.ref 0), some (.int a1), some (.int a2), some (.int a3), some (.int a4), some (.int a5), some (.ref 112), some (.ref 110)], [.int (-7 : Int32)], D, E)) rfl ?_
                          cases h
                          exact ev_ret hq rfl rfl ⟨rfl, rfl, rfl⟩
                        · refine gv_n hq 7 (S' := (109, [some (.ref 0), some (.int a1), some (.int a2), some (.int a3), some (.int a4), some (.int a5), some (.ref 112), some (.ref 110)], [.int a5, .int a4, .ref 111, .int a2, .ref 113], D, E)) rfl ?_
                          refine gv_cp hq rfl h (S' := (112, [some (.ref 0), some (.int a1), some (.int a2), some (.int a3), some (.int a4), some (.int a5), some (.ref 112), some (.ref 110)], [], D, (cE E 113 111 (a2).toNatClampNeg (a4).toNatClampNeg (a5).toNatClampNeg))) rfl rfl (fun h => ?_)
                          refine gv_n hq 1 (S' := (113, [some (.ref 0), some (.int a1), some (.int a2), some (.int a3), some (.int a4), some (.int a5), some (.ref 112), some (.ref 110)], [.int (nI 0)], D, (cE E 113 111 (a2).toNatClampNeg (a4).toNatClampNeg (a5).toNatClampNeg))) rfl ?_
                          cases h
                          exact ev_ret hq rfl rfl ⟨rfl, rfl, rfl⟩
                    · refine gv_n hq 1 (S' := (67, [some (.ref 0), some (.int a1), some (.int a2), some (.int a3), some (.int a4), some (.int a5), some (.ref 112), some (.ref 110)], [.int (-8 : Int32)], D, E)) rfl ?_
                      cases h
                      exact ev_ret hq rfl rfl ⟨rfl, rfl, rfl⟩
              · refine gv_if h (fun c2 h => ?_) (fun c2 h => ?_)
                · refine ev_ins hq rfl (S' := (31, [some (.ref 0), some (.int a1), some (.int a2), some (.int a3), some (.int a4), some (.int a5), some (.ref 112), none], [.ref 112], D, E)) (gv_sw (fun z => ((30, [some (.ref 0), some (.int a1), some (.int a2), some (.int a3), some (.int a4), some (.int a5), some (.ref 112), none], .int z :: [.ref 62], D, E) : mx_S)) c2 rfl) ?_
                  refine gv_n hq 3 (S' := (38, [some (.ref 0), some (.int a1), some (.int a2), some (.int a3), some (.int a4), some (.int a5), some (.ref 112), some (.ref 112)], [.int (D 112 1)], D, E)) rfl ?_
                  refine gv_b hq rfl h 49 41 rfl rfl rfl (fun h => ?_) (fun h => ?_)
                  · refine gv_n hq 1 (S' := (51, [some (.ref 0), some (.int a1), some (.int a2), some (.int a3), some (.int a4), some (.int a5), some (.ref 112), some (.ref 112)], [.int (-6 : Int32)], D, E)) rfl ?_
                    cases h
                    exact ev_ret hq rfl rfl ⟨rfl, rfl, rfl⟩
                  · refine gv_n hq 2 (S' := (46, [some (.ref 0), some (.int a1), some (.int a2), some (.int a3), some (.int a4), some (.int a5), some (.ref 112), some (.ref 112)], [.int (D 112 1)], D, E)) rfl ?_
                    refine gv_b hq rfl h 49 52 rfl rfl rfl (fun h => ?_) (fun h => ?_)
                    · refine gv_n hq 1 (S' := (51, [some (.ref 0), some (.int a1), some (.int a2), some (.int a3), some (.int a4), some (.int a5), some (.ref 112), some (.ref 112)], [.int (-6 : Int32)], D, E)) rfl ?_
                      cases h
                      exact ev_ret hq rfl rfl ⟨rfl, rfl, rfl⟩
                    · refine gv_n hq 4 (S' := (62, [some (.ref 0), some (.int a1), some (.int a2), some (.int a3), some (.int a4), some (.int a5), some (.ref 112), some (.ref 112)], [.int (D 112 2), .int (D 112 2)], D, E)) rfl ?_
                      refine gv_b hq rfl h 68 65 rfl rfl rfl (fun h => ?_) (fun h => ?_)
                      · refine gv_n hq 3 (S' := (73, [some (.ref 0), some (.int a1), some (.int a2), some (.int a3), some (.int a4), some (.int a5), some (.ref 112), some (.ref 112)], [.int a5, .int a2, .ref 112], D, E)) rfl ?_
                        refine gv_d hq rfl rfl rfl rfl rfl ((t_Row_holds_112 X d D E _ _ _ rfl)) (S' := (76, [some (.ref 0), some (.int a1), some (.int a2), some (.int a3), some (.int a4), some (.int a5), some (.ref 112), some (.ref 112)], [.int (g_Row_holds_112 D a2 a5)], D, E)) rfl ?_
                        refine gv_b hq rfl h 91 79 rfl rfl rfl (fun h => ?_) (fun h => ?_)
                        · refine gv_n hq 1 (S' := (93, [some (.ref 0), some (.int a1), some (.int a2), some (.int a3), some (.int a4), some (.int a5), some (.ref 112), some (.ref 112)], [.int (-7 : Int32)], D, E)) rfl ?_
                          cases h
                          exact ev_ret hq rfl rfl ⟨rfl, rfl, rfl⟩
                        · refine gv_n hq 3 (S' := (85, [some (.ref 0), some (.int a1), some (.int a2), some (.int a3), some (.int a4), some (.int a5), some (.ref 112), some (.ref 112)], [.int a5, .int a4, .ref 112], D, E)) rfl ?_
                          refine gv_d hq rfl rfl rfl rfl rfl ((t_Row_holds_112 X d D E _ _ _ rfl)) (S' := (88, [some (.ref 0), some (.int a1), some (.int a2), some (.int a3), some (.int a4), some (.int a5), some (.ref 112), some (.ref 112)], [.int (g_Row_holds_112 D a4 a5)], D, E)) rfl ?_
                          refine gv_b hq rfl h 91 94 rfl rfl rfl (fun h => ?_) (fun h => ?_)
                          · refine gv_n hq 1 (S' := (93, [some (.ref 0), some (.int a1), some (.int a2), some (.int a3), some (.int a4), some (.int a5), some (.ref 112), some (.ref 112)], [.int (-7 : Int32)], D, E)) rfl ?_
                            cases h
                            exact ev_ret hq rfl rfl ⟨rfl, rfl, rfl⟩
                          · refine gv_n hq 7 (S' := (109, [some (.ref 0), some (.int a1), some (.int a2), some (.int a3), some (.int a4), some (.int a5), some (.ref 112), some (.ref 112)], [.int a5, .int a4, .ref 113, .int a2, .ref 113], D, E)) rfl ?_
                            refine gv_cp hq rfl h (S' := (112, [some (.ref 0), some (.int a1), some (.int a2), some (.int a3), some (.int a4), some (.int a5), some (.ref 112), some (.ref 112)], [], D, (cE E 113 113 (a2).toNatClampNeg (a4).toNatClampNeg (a5).toNatClampNeg))) rfl rfl (fun h => ?_)
                            refine gv_n hq 1 (S' := (113, [some (.ref 0), some (.int a1), some (.int a2), some (.int a3), some (.int a4), some (.int a5), some (.ref 112), some (.ref 112)], [.int (nI 0)], D, (cE E 113 113 (a2).toNatClampNeg (a4).toNatClampNeg (a5).toNatClampNeg))) rfl ?_
                            cases h
                            exact ev_ret hq rfl rfl ⟨rfl, rfl, rfl⟩
                      · refine gv_n hq 1 (S' := (67, [some (.ref 0), some (.int a1), some (.int a2), some (.int a3), some (.int a4), some (.int a5), some (.ref 112), some (.ref 112)], [.int (-8 : Int32)], D, E)) rfl ?_
                        cases h
                        exact ev_ret hq rfl rfl ⟨rfl, rfl, rfl⟩
                · refine gv_if h (fun c3 h => ?_) (fun c3 h => ?_)
                  · refine ev_ins hq rfl (S' := (31, [some (.ref 0), some (.int a1), some (.int a2), some (.int a3), some (.int a4), some (.int a5), some (.ref 112), none], [.ref 114], D, E)) (gv_sw (fun z => ((30, [some (.ref 0), some (.int a1), some (.int a2), some (.int a3), some (.int a4), some (.int a5), some (.ref 112), none], .int z :: [.ref 62], D, E) : mx_S)) c3 rfl) ?_
                    refine gv_n hq 3 (S' := (38, [some (.ref 0), some (.int a1), some (.int a2), some (.int a3), some (.int a4), some (.int a5), some (.ref 112), some (.ref 114)], [.int (D 112 1)], D, E)) rfl ?_
                    refine gv_b hq rfl h 49 41 rfl rfl rfl (fun h => ?_) (fun h => ?_)
                    · refine gv_n hq 1 (S' := (51, [some (.ref 0), some (.int a1), some (.int a2), some (.int a3), some (.int a4), some (.int a5), some (.ref 112), some (.ref 114)], [.int (-6 : Int32)], D, E)) rfl ?_
                      cases h
                      exact ev_ret hq rfl rfl ⟨rfl, rfl, rfl⟩
                    · refine gv_n hq 2 (S' := (46, [some (.ref 0), some (.int a1), some (.int a2), some (.int a3), some (.int a4), some (.int a5), some (.ref 112), some (.ref 114)], [.int (D 114 1)], D, E)) rfl ?_
                      refine gv_b hq rfl h 49 52 rfl rfl rfl (fun h => ?_) (fun h => ?_)
                      · refine gv_n hq 1 (S' := (51, [some (.ref 0), some (.int a1), some (.int a2), some (.int a3), some (.int a4), some (.int a5), some (.ref 112), some (.ref 114)], [.int (-6 : Int32)], D, E)) rfl ?_
                        cases h
                        exact ev_ret hq rfl rfl ⟨rfl, rfl, rfl⟩
                      · refine gv_n hq 4 (S' := (62, [some (.ref 0), some (.int a1), some (.int a2), some (.int a3), some (.int a4), some (.int a5), some (.ref 112), some (.ref 114)], [.int (D 114 2), .int (D 112 2)], D, E)) rfl ?_
                        refine gv_b hq rfl h 68 65 rfl rfl rfl (fun h => ?_) (fun h => ?_)
                        · refine gv_n hq 3 (S' := (73, [some (.ref 0), some (.int a1), some (.int a2), some (.int a3), some (.int a4), some (.int a5), some (.ref 112), some (.ref 114)], [.int a5, .int a2, .ref 112], D, E)) rfl ?_
                          refine gv_d hq rfl rfl rfl rfl rfl ((t_Row_holds_112 X d D E _ _ _ rfl)) (S' := (76, [some (.ref 0), some (.int a1), some (.int a2), some (.int a3), some (.int a4), some (.int a5), some (.ref 112), some (.ref 114)], [.int (g_Row_holds_112 D a2 a5)], D, E)) rfl ?_
                          refine gv_b hq rfl h 91 79 rfl rfl rfl (fun h => ?_) (fun h => ?_)
                          · refine gv_n hq 1 (S' := (93, [some (.ref 0), some (.int a1), some (.int a2), some (.int a3), some (.int a4), some (.int a5), some (.ref 112), some (.ref 114)], [.int (-7 : Int32)], D, E)) rfl ?_
                            cases h
                            exact ev_ret hq rfl rfl ⟨rfl, rfl, rfl⟩
                          · refine gv_n hq 3 (S' := (85, [some (.ref 0), some (.int a1), some (.int a2), some (.int a3), some (.int a4), some (.int a5), some (.ref 112), some (.ref 114)], [.int a5, .int a4, .ref 114], D, E)) rfl ?_
                            refine gv_d hq rfl rfl rfl rfl rfl ((t_Row_holds_114 X d D E _ _ _ rfl)) (S' := (88, [some (.ref 0), some (.int a1), some (.int a2), some (.int a3), some (.int a4), some (.int a5), some (.ref 112), some (.ref 114)], [.int (g_Row_holds_114 D a4 a5)], D, E)) rfl ?_
                            refine gv_b hq rfl h 91 94 rfl rfl rfl (fun h => ?_) (fun h => ?_)
                            · refine gv_n hq 1 (S' := (93, [some (.ref 0), some (.int a1), some (.int a2), some (.int a3), some (.int a4), some (.int a5), some (.ref 112), some (.ref 114)], [.int (-7 : Int32)], D, E)) rfl ?_
                              cases h
                              exact ev_ret hq rfl rfl ⟨rfl, rfl, rfl⟩
                            · refine gv_n hq 7 (S' := (109, [some (.ref 0), some (.int a1), some (.int a2), some (.int a3), some (.int a4), some (.int a5), some (.ref 112), some (.ref 114)], [.int a5, .int a4, .ref 115, .int a2, .ref 113], D, E)) rfl ?_
                              refine gv_cp hq rfl h (S' := (112, [some (.ref 0), some (.int a1), some (.int a2), some (.int a3), some (.int a4), some (.int a5), some (.ref 112), some (.ref 114)], [], D, (cE E 113 115 (a2).toNatClampNeg (a4).toNatClampNeg (a5).toNatClampNeg))) rfl rfl (fun h => ?_)
                              refine gv_n hq 1 (S' := (113, [some (.ref 0), some (.int a1), some (.int a2), some (.int a3), some (.int a4), some (.int a5), some (.ref 112), some (.ref 114)], [.int (nI 0)], D, (cE E 113 115 (a2).toNatClampNeg (a4).toNatClampNeg (a5).toNatClampNeg))) rfl ?_
                              cases h
                              exact ev_ret hq rfl rfl ⟨rfl, rfl, rfl⟩
                        · refine gv_n hq 1 (S' := (67, [some (.ref 0), some (.int a1), some (.int a2), some (.int a3), some (.int a4), some (.int a5), some (.ref 112), some (.ref 114)], [.int (-8 : Int32)], D, E)) rfl ?_
                          cases h
                          exact ev_ret hq rfl rfl ⟨rfl, rfl, rfl⟩
                  · cases h
          · refine gv_if h (fun c3 h => ?_) (fun c3 h => ?_)
            · refine ev_ins hq rfl (S' := (23, [some (.ref 0), some (.int a1), some (.int a2), some (.int a3), some (.int a4), some (.int a5), none, none], [.ref 114], D, E)) (gv_sw (fun z => ((22, [some (.ref 0), some (.int a1), some (.int a2), some (.int a3), some (.int a4), some (.int a5), none, none], .int z :: [.ref 62], D, E) : mx_S)) c3 rfl) ?_
              refine gv_n hq 4 (S' := (30, [some (.ref 0), some (.int a1), some (.int a2), some (.int a3), some (.int a4), some (.int a5), some (.ref 114), none], [.int a3, .ref 62], D, E)) rfl ?_
              refine gv_if h (fun c0 h => ?_) (fun c0 h => ?_)
              · refine ev_ins hq rfl (S' := (31, [some (.ref 0), some (.int a1), some (.int a2), some (.int a3), some (.int a4), some (.int a5), some (.ref 114), none], [.ref 108], D, E)) (gv_sw (fun z => ((30, [some (.ref 0), some (.int a1), some (.int a2), some (.int a3), some (.int a4), some (.int a5), some (.ref 114), none], .int z :: [.ref 62], D, E) : mx_S)) c0 rfl) ?_
                refine gv_n hq 3 (S' := (38, [some (.ref 0), some (.int a1), some (.int a2), some (.int a3), some (.int a4), some (.int a5), some (.ref 114), some (.ref 108)], [.int (D 114 1)], D, E)) rfl ?_
                refine gv_b hq rfl h 49 41 rfl rfl rfl (fun h => ?_) (fun h => ?_)
                · refine gv_n hq 1 (S' := (51, [some (.ref 0), some (.int a1), some (.int a2), some (.int a3), some (.int a4), some (.int a5), some (.ref 114), some (.ref 108)], [.int (-6 : Int32)], D, E)) rfl ?_
                  cases h
                  exact ev_ret hq rfl rfl ⟨rfl, rfl, rfl⟩
                · refine gv_n hq 2 (S' := (46, [some (.ref 0), some (.int a1), some (.int a2), some (.int a3), some (.int a4), some (.int a5), some (.ref 114), some (.ref 108)], [.int (D 108 1)], D, E)) rfl ?_
                  refine gv_b hq rfl h 49 52 rfl rfl rfl (fun h => ?_) (fun h => ?_)
                  · refine gv_n hq 1 (S' := (51, [some (.ref 0), some (.int a1), some (.int a2), some (.int a3), some (.int a4), some (.int a5), some (.ref 114), some (.ref 108)], [.int (-6 : Int32)], D, E)) rfl ?_
                    cases h
                    exact ev_ret hq rfl rfl ⟨rfl, rfl, rfl⟩
                  · refine gv_n hq 4 (S' := (62, [some (.ref 0), some (.int a1), some (.int a2), some (.int a3), some (.int a4), some (.int a5), some (.ref 114), some (.ref 108)], [.int (D 108 2), .int (D 114 2)], D, E)) rfl ?_
                    refine gv_b hq rfl h 68 65 rfl rfl rfl (fun h => ?_) (fun h => ?_)
                    · refine gv_n hq 3 (S' := (73, [some (.ref 0), some (.int a1), some (.int a2), some (.int a3), some (.int a4), some (.int a5), some (.ref 114), some (.ref 108)], [.int a5, .int a2, .ref 114], D, E)) rfl ?_
                      refine gv_d hq rfl rfl rfl rfl rfl ((t_Row_holds_114 X d D E _ _ _ rfl)) (S' := (76, [some (.ref 0), some (.int a1), some (.int a2), some (.int a3), some (.int a4), some (.int a5), some (.ref 114), some (.ref 108)], [.int (g_Row_holds_114 D a2 a5)], D, E)) rfl ?_
                      refine gv_b hq rfl h 91 79 rfl rfl rfl (fun h => ?_) (fun h => ?_)
                      · refine gv_n hq 1 (S' := (93, [some (.ref 0), some (.int a1), some (.int a2), some (.int a3), some (.int a4), some (.int a5), some (.ref 114), some (.ref 108)], [.int (-7 : Int32)], D, E)) rfl ?_
                        cases h
                        exact ev_ret hq rfl rfl ⟨rfl, rfl, rfl⟩
                      · refine gv_n hq 3 (S' := (85, [some (.ref 0), some (.int a1), some (.int a2), some (.int a3), some (.int a4), some (.int a5), some (.ref 114), some (.ref 108)], [.int a5, .int a4, .ref 108], D, E)) rfl ?_
                        refine gv_d hq rfl rfl rfl rfl rfl ((t_Row_holds_108 X d D E _ _ _ rfl)) (S' := (88, [some (.ref 0), some (.int a1), some (.int a2), some (.int a3), some (.int a4), some (.int a5), some (.ref 114), some (.ref 108)], [.int (g_Row_holds_108 D a4 a5)], D, E)) rfl ?_
                        refine gv_b hq rfl h 91 94 rfl rfl rfl (fun h => ?_) (fun h => ?_)
                        · refine gv_n hq 1 (S' := (93, [some (.ref 0), some (.int a1), some (.int a2), some (.int a3), some (.int a4), some (.int a5), some (.ref 114), some (.ref 108)], [.int (-7 : Int32)], D, E)) rfl ?_
                          cases h
                          exact ev_ret hq rfl rfl ⟨rfl, rfl, rfl⟩
                        · refine gv_n hq 7 (S' := (109, [some (.ref 0), some (.int a1), some (.int a2), some (.int a3), some (.int a4), some (.int a5), some (.ref 114), some (.ref 108)], [.int a5, .int a4, .ref 109, .int a2, .ref 115], D, E)) rfl ?_
                          refine gv_cp hq rfl h (S' := (112, [some (.ref 0), some (.int a1), some (.int a2), some (.int a3), some (.int a4), some (.int a5), some (.ref 114), some (.ref 108)], [], D, (cE E 115 109 (a2).toNatClampNeg (a4).toNatClampNeg (a5).toNatClampNeg))) rfl rfl (fun h => ?_)
                          refine gv_n hq 1 (S' := (113, [some (.ref 0), some (.int a1), some (.int a2), some (.int a3), some (.int a4), some (.int a5), some (.ref 114), some (.ref 108)], [.int (nI 0)], D, (cE E 115 109 (a2).toNatClampNeg (a4).toNatClampNeg (a5).toNatClampNeg))) rfl ?_
                          cases h
                          exact ev_ret hq rfl rfl ⟨rfl, rfl, rfl⟩
                    · refine gv_n hq 1 (S' := (67, [some (.ref 0), some (.int a1), some (.int a2), some (.int a3), some (.int a4), some (.int a5), some (.ref 114), some (.ref 108)], [.int (-8 : Int32)], D, E)) rfl ?_
                      cases h
                      exact ev_ret hq rfl rfl ⟨rfl, rfl, rfl⟩
              · refine gv_if h (fun c1 h => ?_) (fun c1 h => ?_)
                · refine ev_ins hq rfl (S' := (31, [some (.ref 0), some (.int a1), some (.int a2), some (.int a3), some (.int a4), some (.int a5), some (.ref 114), none], [.ref 110], D, E)) (gv_sw (fun z => ((30, [some (.ref 0), some (.int a1), some (.int a2), some (.int a3), some (.int a4), some (.int a5), some (.ref 114), none], .int z :: [.ref 62], D, E) : mx_S)) c1 rfl) ?_
                  refine gv_n hq 3 (S' := (38, [some (.ref 0), some (.int a1), some (.int a2), some (.int a3), some (.int a4), some (.int a5), some (.ref 114), some (.ref 110)], [.int (D 114 1)], D, E)) rfl ?_
                  refine gv_b hq rfl h 49 41 rfl rfl rfl (fun h => ?_) (fun h => ?_)
                  · refine gv_n hq 1 (S' := (51, [some (.ref 0), some (.int a1), some (.int a2), some (.int a3), some (.int a4), some (.int a5), some (.ref 114), some (.ref 110)], [.int (-6 : Int32)], D, E)) rfl ?_
                    cases h
                    exact ev_ret hq rfl rfl ⟨rfl, rfl, rfl⟩
                  · refine gv_n hq 2 (S' := (46, [some (.ref 0), some (.int a1), some (.int a2), some (.int a3), some (.int a4), some (.int a5), some (.ref 114), some (.ref 110)], [.int (D 110 1)], D, E)) rfl ?_
                    refine gv_b hq rfl h 49 52 rfl rfl rfl (fun h => ?_) (fun h => ?_)
                    · refine gv_n hq 1 (S' := (51, [some (.ref 0), some (.int a1), some (.int a2), some (.int a3), some (.int a4), some (.int a5), some (.ref 114), some (.ref 110)], [.int (-6 : Int32)], D, E)) rfl ?_
                      cases h
                      exact ev_ret hq rfl rfl ⟨rfl, rfl, rfl⟩
                    · refine gv_n hq 4 (S' := (62, [some (.ref 0), some (.int a1), some (.int a2), some (.int a3), some (.int a4), some (.int a5), some (.ref 114), some (.ref 110)], [.int (D 110 2), .int (D 114 2)], D, E)) rfl ?_
                      refine gv_b hq rfl h 68 65 rfl rfl rfl (fun h => ?_) (fun h => ?_)
                      · refine gv_n hq 3 (S' := (73, [some (.ref 0), some (.int a1), some (.int a2), some (.int a3), some (.int a4), some (.int a5), some (.ref 114), some (.ref 110)], [.int a5, .int a2, .ref 114], D, E)) rfl ?_
                        refine gv_d hq rfl rfl rfl rfl rfl ((t_Row_holds_114 X d D E _ _ _ rfl)) (S' := (76, [some (.ref 0), some (.int a1), some (.int a2), some (.int a3), some (.int a4), some (.int a5), some (.ref 114), some (.ref 110)], [.int (g_Row_holds_114 D a2 a5)], D, E)) rfl ?_
                        refine gv_b hq rfl h 91 79 rfl rfl rfl (fun h => ?_) (fun h => ?_)
                        · refine gv_n hq 1 (S' := (93, [some (.ref 0), some (.int a1), some (.int a2), some (.int a3), some (.int a4), some (.int a5), some (.ref 114), some (.ref 110)], [.int (-7 : Int32)], D, E)) rfl ?_
                          cases h
                          exact ev_ret hq rfl rfl ⟨rfl, rfl, rfl⟩
                        · refine gv_n hq 3 (S' := (85, [some (.ref 0), some (.int a1), some (.int a2), some (.int a3), some (.int a4), some (.int a5), some (.ref 114), some (.ref 110)], [.int a5, .int a4, .ref 110], D, E)) rfl ?_
                          refine gv_d hq rfl rfl rfl rfl rfl ((t_Row_holds_110 X d D E _ _ _ rfl)) (S' := (88, [some (.ref 0), some (.int a1), some (.int a2), some (.int a3), some (.int a4), some (.int a5), some (.ref 114), some (.ref 110)], [.int (g_Row_holds_110 D a4 a5)], D, E)) rfl ?_
                          refine gv_b hq rfl h 91 94 rfl rfl rfl (fun h => ?_) (fun h => ?_)
                          · refine gv_n hq 1 (S' := (93, [some (.ref 0), some (.int a1), some (.int a2), some (.int a3), some (.int a4), some (.int a5), some (.ref 114), some (.ref 110)], [.int (-7 : Int32)], D, E)) rfl ?_
                            cases h
                            exact ev_ret hq rfl rfl ⟨rfl, rfl, rfl⟩
                          · refine gv_n hq 7 (S' := (109, [some (.ref 0), some (.int a1), some (.int a2), some (.int a3), some (.int a4), some (.int a5), some (.ref 114), some (.ref 110)], [.int a5, .int a4, .ref 111, .int a2, .ref 115], D, E)) rfl ?_
                            refine gv_cp hq rfl h (S' := (112, [some (.ref 0), some (.int a1), some (.int a2), some (.int a3), some (.int a4), some (.int a5), some (.ref 114), some (.ref 110)], [], D, (cE E 115 111 (a2).toNatClampNeg (a4).toNatClampNeg (a5).toNatClampNeg))) rfl rfl (fun h => ?_)
                            refine gv_n hq 1 (S' := (113, [some (.ref 0), some (.int a1), some (.int a2), some (.int a3), some (.int a4), some (.int a5), some (.ref 114), some (.ref 110)], [.int (nI 0)], D, (cE E 115 111 (a2).toNatClampNeg (a4).toNatClampNeg (a5).toNatClampNeg))) rfl ?_
                            cases h
                            exact ev_ret hq rfl rfl ⟨rfl, rfl, rfl⟩
                      · refine gv_n hq 1 (S' := (67, [some (.ref 0), some (.int a1), some (.int a2), some (.int a3), some (.int a4), some (.int a5), some (.ref 114), some (.ref 110)], [.int (-8 : Int32)], D, E)) rfl ?_
                        cases h
                        exact ev_ret hq rfl rfl ⟨rfl, rfl, rfl⟩
                · refine gv_if h (fun c2 h => ?_) (fun c2 h => ?_)
                  · refine ev_ins hq rfl (S' := (31, [some (.ref 0), some (.int a1), some (.int a2), some (.int a3), some (.int a4), some (.int a5), some (.ref 114), none], [.ref 112], D, E)) (gv_sw (fun z => ((30, [some (.ref 0), some (.int a1), some (.int a2), some (.int a3), some (.int a4), some (.int a5), some (.ref 114), none], .int z :: [.ref 62], D, E) : mx_S)) c2 rfl) ?_
                    refine gv_n hq 3 (S' := (38, [some (.ref 0), some (.int a1), some (.int a2), some (.int a3), some (.int a4), some (.int a5), some (.ref 114), some (.ref 112)], [.int (D 114 1)], D, E)) rfl ?_
                    refine gv_b hq rfl h 49 41 rfl rfl rfl (fun h => ?_) (fun h => ?_)
                    · refine gv_n hq 1 (S' := (51, [some (.ref 0), some (.int a1), some (.int a2), some (.int a3), some (.int a4), some (.int a5), some (.ref 114), some (.ref 112)], [.int (-6 : Int32)], D, E)) rfl ?_
                      cases h
                      exact ev_ret hq rfl rfl ⟨rfl, rfl, rfl⟩
                    · refine gv_n hq 2 (S' := (46, [some (.ref 0), some (.int a1), some (.int a2), some (.int a3), some (.int a4), some (.int a5), some (.ref 114), some (.ref 112)], [.int (D 112 1)], D, E)) rfl ?_
                      refine gv_b hq rfl h 49 52 rfl rfl rfl (fun h => ?_) (fun h => ?_)
                      · refine gv_n hq 1 (S' := (51, [some (.ref 0), some (.int a1), some (.int a2), some (.int a3), some (.int a4), some (.int a5), some (.ref 114), some (.ref 112)], [.int (-6 : Int32)], D, E)) rfl ?_
                        cases h
                        exact ev_ret hq rfl rfl ⟨rfl, rfl, rfl⟩
                      · refine gv_n hq 4 (S' := (62, [some (.ref 0), some (.int a1), some (.int a2), some (.int a3), some (.int a4), some (.int a5), some (.ref 114), some (.ref 112)], [.int (D 112 2), .int (D 114 2)], D, E)) rfl ?_
                        refine gv_b hq rfl h 68 65 rfl rfl rfl (fun h => ?_) (fun h => ?_)
                        · refine gv_n hq 3 (S' := (73, [some (.ref 0), some (.int a1), some (.int a2), some (.int a3), some (.int a4), some (.int a5), some (.ref 114), some (.ref 112)], [.int a5, .int a2, .ref 114], D, E)) rfl ?_
                          refine gv_d hq rfl rfl rfl rfl rfl ((t_Row_holds_114 X d D E _ _ _ rfl)) (S' := (76, [some (.ref 0), some (.int a1), some (.int a2), some (.int a3), some (.int a4), some (.int a5), some (.ref 114), some (.ref 112)], [.int (g_Row_holds_114 D a2 a5)], D, E)) rfl ?_
                          refine gv_b hq rfl h 91 79 rfl rfl rfl (fun h => ?_) (fun h => ?_)
                          · refine gv_n hq 1 (S' := (93, [some (.ref 0), some (.int a1), some (.int a2), some (.int a3), some (.int a4), some (.int a5), some (.ref 114), some (.ref 112)], [.int (-7 : Int32)], D, E)) rfl ?_
                            cases h
                            exact ev_ret hq rfl rfl ⟨rfl, rfl, rfl⟩
                          · refine gv_n hq 3 (S' := (85, [some (.ref 0), some (.int a1), some (.int a2), some (.int a3), some (.int a4), some (.int a5), some (.ref 114), some (.ref 112)], [.int a5, .int a4, .ref 112], D, E)) rfl ?_
                            refine gv_d hq rfl rfl rfl rfl rfl ((t_Row_holds_112 X d D E _ _ _ rfl)) (S' := (88, [some (.ref 0), some (.int a1), some (.int a2), some (.int a3), some (.int a4), some (.int a5), some (.ref 114), some (.ref 112)], [.int (g_Row_holds_112 D a4 a5)], D, E)) rfl ?_
                            refine gv_b hq rfl h 91 94 rfl rfl rfl (fun h => ?_) (fun h => ?_)
                            · refine gv_n hq 1 (S' := (93, [some (.ref 0), some (.int a1), some (.int a2), some (.int a3), some (.int a4), some (.int a5), some (.ref 114), some (.ref 112)], [.int (-7 : Int32)], D, E)) rfl ?_
                              cases h
                              exact ev_ret hq rfl rfl ⟨rfl, rfl, rfl⟩
                            · refine gv_n hq 7 (S' := (109, [some (.ref 0), some (.int a1), some (.int a2), some (.int a3), some (.int a4), some (.int a5), some (.ref 114), some (.ref 112)], [.int a5, .int a4, .ref 113, .int a2, .ref 115], D, E)) rfl ?_
                              refine gv_cp hq rfl h (S' := (112, [some (.ref 0), some (.int a1), some (.int a2), some (.int a3), some (.int a4), some (.int a5), some (.ref 114), some (.ref 112)], [], D, (cE E 115 113 (a2).toNatClampNeg (a4).toNatClampNeg (a5).toNatClampNeg))) rfl rfl (fun h => ?_)
                              refine gv_n hq 1 (S' := (113, [some (.ref 0), some (.int a1), some (.int a2), some (.int a3), some (.int a4), some (.int a5), some (.ref 114), some (.ref 112)], [.int (nI 0)], D, (cE E 115 113 (a2).toNatClampNeg (a4).toNatClampNeg (a5).toNatClampNeg))) rfl ?_
                              cases h
                              exact ev_ret hq rfl rfl ⟨rfl, rfl, rfl⟩
                        · refine gv_n hq 1 (S' := (67, [some (.ref 0), some (.int a1), some (.int a2), some (.int a3), some (.int a4), some (.int a5), some (.ref 114), some (.ref 112)], [.int (-8 : Int32)], D, E)) rfl ?_
                          cases h
                          exact ev_ret hq rfl rfl ⟨rfl, rfl, rfl⟩
                  · refine gv_if h (fun c3 h => ?_) (fun c3 h => ?_)
                    · refine ev_ins hq rfl (S' := (31, [some (.ref 0), some (.int a1), some (.int a2), some (.int a3), some (.int a4), some (.int a5), some (.ref 114), none], [.ref 114], D, E)) (gv_sw (fun z => ((30, [some (.ref 0), some (.int a1), some (.int a2), some (.int a3), some (.int a4), some (.int a5), some (.ref 114), none], .int z :: [.ref 62], D, E) : mx_S)) c3 rfl) ?_
                      refine gv_n hq 3 (S' := (38, [some (.ref 0), some (.int a1), some (.int a2), some (.int a3), some (.int a4), some (.int a5), some (.ref 114), some (.ref 114)], [.int (D 114 1)], D, E)) rfl ?_
                      refine gv_b hq rfl h 49 41 rfl rfl rfl (fun h => ?_) (fun h => ?_)
                      · refine gv_n hq 1 (S' := (51, [some (.ref 0), some (.int a1), some (.int a2), some (.int a3), some (.int a4), some (.int a5), some (.ref 114), some (.ref 114)], [.int (-6 : Int32)], D, E)) rfl ?_
                        cases h
                        exact ev_ret hq rfl rfl ⟨rfl, rfl, rfl⟩
                      · refine gv_n hq 2 (S' := (46, [some (.ref 0), some (.int a1), some (.int a2), some (.int a3), some (.int a4), some (.int a5), some (.ref 114), some (.ref 114)], [.int (D 114 1)], D, E)) rfl ?_
                        refine gv_b hq rfl h 49 52 rfl rfl rfl (fun h => ?_) (fun h => ?_)
                        · refine gv_n hq 1 (S' := (51, [some (.ref 0), some (.int a1), some (.int a2), some (.int a3), some (.int a4), some (.int a5), some (.ref 114), some (.ref 114)], [.int (-6 : Int32)], D, E)) rfl ?_
                          cases h
                          exact ev_ret hq rfl rfl ⟨rfl, rfl, rfl⟩
                        · refine gv_n hq 4 (S' := (62, [some (.ref 0), some (.int a1), some (.int a2), some (.int a3), some (.int a4), some (.int a5), some (.ref 114), some (.ref 114)], [.int (D 114 2), .int (D 114 2)], D, E)) rfl ?_
                          refine gv_b hq rfl h 68 65 rfl rfl rfl (fun h => ?_) (fun h => ?_)
                          · refine gv_n hq 3 (S' := (73, [some (.ref 0), some (.int a1), some (.int a2), some (.int a3), some (.int a4), some (.int a5), some (.ref 114), some (.ref 114)], [.int a5, .int a2, .ref 114], D, E)) rfl ?_
                            refine gv_d hq rfl rfl rfl rfl rfl ((t_Row_holds_114 X d D E _ _ _ rfl)) (S' := (76, [some (.ref 0), some (.int a1), some (.int a2), some (.int a3), some (.int a4), some (.int a5), some (.ref 114), some (.ref 114)], [.int (g_Row_holds_114 D a2 a5)], D, E)) rfl ?_
                            refine gv_b hq rfl h 91 79 rfl rfl rfl (fun h => ?_) (fun h => ?_)
                            · refine gv_n hq 1 (S' := (93, [some (.ref 0), some (.int a1), some (.int a2), some (.int a3), some (.int a4), some (.int a5), some (.ref 114), some (.ref 114)], [.int (-7 : Int32)], D, E)) rfl ?_
                              cases h
                              exact ev_ret hq rfl rfl ⟨rfl, rfl, rfl⟩
                            · refine gv_n hq 3 (S' := (85, [some (.ref 0), some (.int a1), some (.int a2), some (.int a3), some (.int a4), some (.int a5), some (.ref 114), some (.ref 114)], [.int a5, .int a4, .ref 114], D, E)) rfl ?_
                              refine gv_d hq rfl rfl rfl rfl rfl ((t_Row_holds_114 X d D E _ _ _ rfl)) (S' := (88, [some (.ref 0), some (.int a1), some (.int a2), some (.int a3), some (.int a4), some (.int a5), some (.ref 114), some (.ref 114)], [.int (g_Row_holds_114 D a4 a5)], D, E)) rfl ?_
                              refine gv_b hq rfl h 91 94 rfl rfl rfl (fun h => ?_) (fun h => ?_)
                              · refine gv_n hq 1 (S' := (93, [some (.ref 0), some (.int a1), some (.int a2), some (.int a3), some (.int a4), some (.int a5), some (.ref 114), some (.ref 114)], [.int (-7 : Int32)], D, E)) rfl ?_
                                cases h
                                exact ev_ret hq rfl rfl ⟨rfl, rfl, rfl⟩
                              · refine gv_n hq 7 (S' := (109, [some (.ref 0), some (.int a1), some (.int a2), some (.int a3), some (.int a4), some (.int a5), some (.ref 114), some (.ref 114)], [.int a5, .int a4, .ref 115, .int a2, .ref 115], D, E)) rfl ?_
                                refine gv_cp hq rfl h (S' := (112, [some (.ref 0), some (.int a1), some (.int a2), some (.int a3), some (.int a4), some (.int a5), some (.ref 114), some (.ref 114)], [], D, (cE E 115 115 (a2).toNatClampNeg (a4).toNatClampNeg (a5).toNatClampNeg))) rfl rfl (fun h => ?_)
                                refine gv_n hq 1 (S' := (113, [some (.ref 0), some (.int a1), some (.int a2), some (.int a3), some (.int a4), some (.int a5), some (.ref 114), some (.ref 114)], [.int (nI 0)], D, (cE E 115 115 (a2).toNatClampNeg (a4).toNatClampNeg (a5).toNatClampNeg))) rfl ?_
                                cases h
                                exact ev_ret hq rfl rfl ⟨rfl, rfl, rfl⟩
                          · refine gv_n hq 1 (S' := (67, [some (.ref 0), some (.int a1), some (.int a2), some (.int a3), some (.int a4), some (.int a5), some (.ref 114), some (.ref 114)], [.int (-8 : Int32)], D, E)) rfl ?_
                            cases h
                            exact ev_ret hq rfl rfl ⟨rfl, rfl, rfl⟩
                    · cases h
            · cases h
