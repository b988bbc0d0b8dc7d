/-! ===== pictures of the methods and the rows that tie them to their frames, printed by a program of mine ===== -/
def b_Reader_readTape_28 (F : Nat) (k28 : Int32 → mx_D → Option (Int32 × mx_D)) (l1 : Int32) (D : mx_D) : Option (Int32 × mx_D) := (if (D 1 1) ≤ l1 then (if (D 3 1) = 0 then (some ((nI 1), D)) else (some ((nI 0), D))) else (if (D 3 5) = 0 then (if (D 3 1) = 0 then (some ((nI 1), D)) else (some ((nI 0), D))) else (if (D 3 1) = 0 then (Option.bind (g_Reader_readLine F D) (fun r3 => (k28 (l1 + (nI 1)) (sD r3 4 4 ((r3 4 4) + (nI 1)))))) else (if (D 3 1) = 0 then (some ((nI 1), D)) else (some ((nI 0), D))))))
set_option maxRecDepth 100000 in
set_option maxHeartbeats 4000000 in
theorem tb_Reader_readTape_28 (X : ev_X) (F : Nat) (d : Nat) (hd : 13 ≤ d + 1) (E : mx_E) (k28 : Int32 → mx_D → Option (Int32 × mx_D)) (K28 : ∀ (l1 : Int32) (D : mx_D) (v : Int32 × mx_D), k28 l1 D = some v → ev X (d + 1) 58 (28, [some (.ref 3), some (.int l1)], [], D, E) (qR (some (.int v.1)) v.2 E)) (l1 : Int32) (D : mx_D) (v : Int32 × mx_D) (h : b_Reader_readTape_28 F k28 l1 D = some v) : ev X (d + 1) 58 (28, [some (.ref 3), some (.int l1)], [], D, E) (qR (some (.int v.1)) v.2 E) := by
  have hq : kq_m 58 = some kq_q58 := rfl
  unfold b_Reader_readTape_28 at h
  refine gv_n hq 4 (S' := (36, [some (.ref 3), some (.int l1)], [.int (D 1 1), .int l1], D, E)) rfl ?_
  refine gv_b hq rfl h 76 39 rfl rfl rfl (fun h => ?_) (fun h => ?_)
  · refine gv_n hq 2 (S' := (80, [some (.ref 3), some (.int l1)], [.int (D 3 1)], D, E)) rfl ?_
    refine gv_b hq rfl h 83 87 rfl rfl rfl (fun h => ?_) (fun h => ?_)
    · refine gv_n hq 2 (S' := (88, [some (.ref 3), some (.int l1)], [.int (nI 1)], D, E)) rfl ?_
      cases h
      exact ev_ret hq rfl rfl ⟨rfl, rfl, rfl⟩
    · refine gv_n hq 1 (S' := (88, [some (.ref 3), some (.int l1)], [.int (nI 0)], D, E)) rfl ?_
      cases h
      exact ev_ret hq rfl rfl ⟨rfl, rfl, rfl⟩
  · refine gv_n hq 2 (S' := (43, [some (.ref 3), some (.int l1)], [.int (D 3 5)], D, E)) rfl ?_
    refine gv_b hq rfl h 76 46 rfl rfl rfl (fun h => ?_) (fun h => ?_)
    · refine gv_n hq 2 (S' := (80, [some (.ref 3), some (.int l1)], [.int (D 3 1)], D, E)) rfl ?_
      refine gv_b hq rfl h 83 87 rfl rfl rfl (fun h => ?_) (fun h => ?_)
      · refine gv_n hq 2 (S' := (88, [some (.ref 3), some (.int l1)], [.int (nI 1)], D, E)) rfl ?_
        cases h
        exact ev_ret hq rfl rfl ⟨rfl, rfl, rfl⟩
      · refine gv_n hq 1 (S' := (88, [some (.ref 3), some (.int l1)], [.int (nI 0)], D, E)) rfl ?_
        cases h
        exact ev_ret hq rfl rfl ⟨rfl, rfl, rfl⟩
    · refine gv_n hq 2 (S' := (50, [some (.ref 3), some (.int l1)], [.int (D 3 1)], D, E)) rfl ?_
      refine gv_b hq rfl h 53 76 rfl rfl rfl (fun h => ?_) (fun h => ?_)
      · refine gv_n hq 1 (S' := (54, [some (.ref 3), some (.int l1)], [.ref 3], D, E)) rfl ?_
        obtain ⟨r3, h1, h⟩ := Option.bind_eq_some_iff.mp h
        refine gv_d hq rfl rfl rfl rfl rfl (gv_dd (by omega) (t_Reader_readLine X F (d - 1) (by omega) E _ _ h1)) (S' := (57, [some (.ref 3), some (.int l1)], [], r3, E)) rfl ?_
        refine gv_n hq 9 (S' := (28, [some (.ref 3), some (.int (l1 + (nI 1)))], [], (sD r3 4 4 ((r3 4 4) + (nI 1))), E)) rfl ?_
        exact gv_w (K28 _ _ _ h) (And.intro rfl (And.intro rfl trivial))
      · refine gv_n hq 2 (S' := (80, [some (.ref 3), some (.int l1)], [.int (D 3 1)], D, E)) rfl ?_
        refine gv_b hq rfl h 83 87 rfl rfl rfl (fun h => ?_) (fun h => ?_)
        · refine gv_n hq 2 (S' := (88, [some (.ref 3), some (.int l1)], [.int (nI 1)], D, E)) rfl ?_
          cases h
          exact ev_ret hq rfl rfl ⟨rfl, rfl, rfl⟩
        · refine gv_n hq 1 (S' := (88, [some (.ref 3), some (.int l1)], [.int (nI 0)], D, E)) rfl ?_
          cases h
          exact ev_ret hq rfl rfl ⟨rfl, rfl, rfl⟩
def g_Reader_readTape_28 (F : Nat) : Nat → Int32 → mx_D → Option (Int32 × mx_D) := it (fun k28 => b_Reader_readTape_28 F k28) (fun _ _ => none)
set_option maxRecDepth 100000 in
set_option maxHeartbeats 4000000 in
theorem t_Reader_readTape_28 (X : ev_X) (F : Nat) (d : Nat) (hd : 13 ≤ d + 1) (E : mx_E)  : ∀ (n : Nat) (l1 : Int32) (D : mx_D) (v : Int32 × mx_D), g_Reader_readTape_28 F n l1 D = some v → ev X (d + 1) 58 (28, [some (.ref 3), some (.int l1)], [], D, E) (qR (some (.int v.1)) v.2 E) := by
  intro n
  induction n with
  | zero => intro l1 D v h; cases h
  | succ n ih => intro l1 D v h; exact tb_Reader_readTape_28 X F d hd E (g_Reader_readTape_28 F n) ih l1 D v h
def g_Reader_readTape (F : Nat) (D : mx_D) : Option (Int32 × mx_D) := (Option.bind (g_Church_clear_4 F D) (fun r1 => (Option.bind (g_Reader_advance F (sD (sD (sD r1 3 1 (nI 0)) 3 2 (-1 : Int32)) 3 4 (nI 0))) (fun r2 => (g_Reader_readTape_28 F F (nI 0) r2)))))
set_option maxRecDepth 100000 in
set_option maxHeartbeats 4000000 in
theorem t_Reader_readTape (X : ev_X) (F : Nat) (d : Nat) (hd : 13 ≤ d + 1) (E : mx_E) (D : mx_D) (v : Int32 × mx_D) (h : g_Reader_readTape F D = some v) : ev X (d + 1) 58 (0, [some (.ref 3), none], [], D, E) (qR (some (.int v.1)) v.2 E) := by
  have hq : kq_m 58 = some kq_q58 := rfl
  unfold g_Reader_readTape at h
  refine gv_n hq 2 (S' := (4, [some (.ref 3), none], [.ref 4], D, E)) rfl ?_
  obtain ⟨r1, h1, h⟩ := Option.bind_eq_some_iff.mp h
  refine gv_d hq rfl rfl rfl rfl rfl (gv_dd (by omega) (t_Church_clear_4 X F (d - 1) (by omega) E _ _ h1)) (S' := (7, [some (.ref 3), none], [], r1, E)) rfl ?_
  refine gv_n hq 10 (S' := (23, [some (.ref 3), none], [.ref 3], (sD (sD (sD r1 3 1 (nI 0)) 3 2 (-1 : Int32)) 3 4 (nI 0)), E)) rfl ?_
  obtain ⟨r2, h1, h⟩ := Option.bind_eq_some_iff.mp h
  refine gv_d hq rfl rfl rfl rfl rfl (gv_dd (by omega) (t_Reader_advance X F (d - 1) (by omega) E _ _ h1)) (S' := (26, [some (.ref 3), none], [], r2, E)) rfl ?_
  refine gv_n hq 2 (S' := (28, [some (.ref 3), some (.int (nI 0))], [], r2, E)) rfl ?_
  exact gv_w (t_Reader_readTape_28 X F d hd E F _ _ _ h) (And.intro rfl (And.intro rfl trivial))
def g_People_copyOf_9 (D : mx_D) : mx_D := (sD (cD (cD (cD (cD (cD (cD D 10 25 0 0 8) 11 26 0 0 8) 12 27 0 0 8) 13 28 0 0 8) 14 29 0 0 8) 15 30 0 0 8) 24 6 ((cD (cD (cD (cD (cD (cD D 10 25 0 0 8) 11 26 0 0 8) 12 27 0 0 8) 13 28 0 0 8) 14 29 0 0 8) 15 30 0 0 8) 9 6))
set_option maxRecDepth 100000 in
set_option maxHeartbeats 4000000 in
theorem t_People_copyOf_9 (X : ev_X) (d : Nat) (hd : 1 ≤ d + 1) (E : mx_E) (D : mx_D) (v : mx_D) (h : g_People_copyOf_9 D = v) : ev X (d + 1) 56 (0, [some (.ref 24), some (.ref 9)], [], D, E) (qR none v E) := by
  have hq : kq_m 56 = some kq_q56 := rfl
  unfold g_People_copyOf_9 at h
  refine gv_n hq 52 (S' := (98, [some (.ref 24), some (.ref 9)], [], (sD (cD (cD (cD (cD (cD (cD D 10 25 0 0 8) 11 26 0 0 8) 12 27 0 0 8) 13 28 0 0 8) 14 29 0 0 8) 15 30 0 0 8) 24 6 ((cD (cD (cD (cD (cD (cD D 10 25 0 0 8) 11 26 0 0 8) 12 27 0 0 8) 13 28 0 0 8) 14 29 0 0 8) 15 30 0 0 8) 9 6)), E)) rfl ?_
  subst h
  exact ev_ret hq rfl rfl ⟨rfl, rfl, rfl⟩
def g_Church_copyOf_4 (D : mx_D) : Option (mx_D) := (zk ((sD (sD (sD D 19 0 (D 4 0)) 19 1 ((sD D 19 0 (D 4 0)) 4 1)) 19 2 ((sD (sD D 19 0 (D 4 0)) 19 1 ((sD D 19 0 (D 4 0)) 4 1)) 4 2)) 4 3) (some (cD (cD (sD (cD (sD (g_People_copyOf_9 (cD (cD (cD (cD (sD (sD (sD (sD (sD D 19 0 (D 4 0)) 19 1 ((sD D 19 0 (D 4 0)) 4 1)) 19 2 ((sD (sD D 19 0 (D 4 0)) 19 1 ((sD D 19 0 (D 4 0)) 4 1)) 4 2)) 19 3 ((sD (sD (sD D 19 0 (D 4 0)) 19 1 ((sD D 19 0 (D 4 0)) 4 1)) 19 2 ((sD (sD D 19 0 (D 4 0)) 19 1 ((sD D 19 0 (D 4 0)) 4 1)) 4 2)) 4 3)) 19 4 ((sD (sD (sD (sD D 19 0 (D 4 0)) 19 1 ((sD D 19 0 (D 4 0)) 4 1)) 19 2 ((sD (sD D 19 0 (D 4 0)) 19 1 ((sD D 19 0 (D 4 0)) 4 1)) 4 2)) 19 3 ((sD (sD (sD D 19 0 (D 4 0)) 19 1 ((sD D 19 0 (D 4 0)) 4 1)) 19 2 ((sD (sD D 19 0 (D 4 0)) 19 1 ((sD D 19 0 (D 4 0)) 4 1)) 4 2)) 4 3)) 4 4)) 5 20 0 0 4) 6 21 0 0 4) 7 22 0 0 4) 8 23 0 0 20)) 19 10 ((g_People_copyOf_9 (cD (cD (cD (cD (sD (sD (sD (sD (sD D 19 0 (D 4 0)) 19 1 ((sD D 19 0 (D 4 0)) 4 1)) 19 2 ((sD (sD D 19 0 (D 4 0)) 19 1 ((sD D 19 0 (D 4 0)) 4 1)) 4 2)) 19 3 ((sD (sD (sD D 19 0 (D 4 0)) 19 1 ((sD D 19 0 (D 4 0)) 4 1)) 19 2 ((sD (sD D 19 0 (D 4 0)) 19 1 ((sD D 19 0 (D 4 0)) 4 1)) 4 2)) 4 3)) 19 4 ((sD (sD (sD (sD D 19 0 (D 4 0)) 19 1 ((sD D 19 0 (D 4 0)) 4 1)) 19 2 ((sD (sD D 19 0 (D 4 0)) 19 1 ((sD D 19 0 (D 4 0)) 4 1)) 4 2)) 19 3 ((sD (sD (sD D 19 0 (D 4 0)) 19 1 ((sD D 19 0 (D 4 0)) 4 1)) 19 2 ((sD (sD D 19 0 (D 4 0)) 19 1 ((sD D 19 0 (D 4 0)) 4 1)) 4 2)) 4 3)) 4 4)) 5 20 0 0 4) 6 21 0 0 4) 7 22 0 0 4) 8 23 0 0 20)) 4 10)) 16 31 0 0 8) 19 12 ((cD (sD (g_People_copyOf_9 (cD (cD (cD (cD (sD (sD (sD (sD (sD D 19 0 (D 4 0)) 19 1 ((sD D 19 0 (D 4 0)) 4 1)) 19 2 ((sD (sD D 19 0 (D 4 0)) 19 1 ((sD D 19 0 (D 4 0)) 4 1)) 4 2)) 19 3 ((sD (sD (sD D 19 0 (D 4 0)) 19 1 ((sD D 19 0 (D 4 0)) 4 1)) 19 2 ((sD (sD D 19 0 (D 4 0)) 19 1 ((sD D 19 0 (D 4 0)) 4 1)) 4 2)) 4 3)) 19 4 ((sD (sD (sD (sD D 19 0 (D 4 0)) 19 1 ((sD D 19 0 (D 4 0)) 4 1)) 19 2 ((sD (sD D 19 0 (D 4 0)) 19 1 ((sD D 19 0 (D 4 0)) 4 1)) 4 2)) 19 3 ((sD (sD (sD D 19 0 (D 4 0)) 19 1 ((sD D 19 0 (D 4 0)) 4 1)) 19 2 ((sD (sD D 19 0 (D 4 0)) 19 1 ((sD D 19 0 (D 4 0)) 4 1)) 4 2)) 4 3)) 4 4)) 5 20 0 0 4) 6 21 0 0 4) 7 22 0 0 4) 8 23 0 0 20)) 19 10 ((g_People_copyOf_9 (cD (cD (cD (cD (sD (sD (sD (sD (sD D 19 0 (D 4 0)) 19 1 ((sD D 19 0 (D 4 0)) 4 1)) 19 2 ((sD (sD D 19 0 (D 4 0)) 19 1 ((sD D 19 0 (D 4 0)) 4 1)) 4 2)) 19 3 ((sD (sD (sD D 19 0 (D 4 0)) 19 1 ((sD D 19 0 (D 4 0)) 4 1)) 19 2 ((sD (sD D 19 0 (D 4 0)) 19 1 ((sD D 19 0 (D 4 0)) 4 1)) 4 2)) 4 3)) 19 4 ((sD (sD (sD (sD D 19 0 (D 4 0)) 19 1 ((sD D 19 0 (D 4 0)) 4 1)) 19 2 ((sD (sD D 19 0 (D 4 0)) 19 1 ((sD D 19 0 (D 4 0)) 4 1)) 4 2)) 19 3 ((sD (sD (sD D 19 0 (D 4 0)) 19 1 ((sD D 19 0 (D 4 0)) 4 1)) 19 2 ((sD (sD D 19 0 (D 4 0)) 19 1 ((sD D 19 0 (D 4 0)) 4 1)) 4 2)) 4 3)) 4 4)) 5 20 0 0 4) 6 21 0 0 4) 7 22 0 0 4) 8 23 0 0 20)) 4 10)) 16 31 0 0 8) 4 12)) 17 32 0 0 5) 18 33 0 0 5)))
set_option maxRecDepth 100000 in
set_option maxHeartbeats 4000000 in
theorem t_Church_copyOf_4 (X : ev_X) (d : Nat) (hd : 2 ≤ d + 1) (E : mx_E) (D : mx_D) (v : mx_D) (h : g_Church_copyOf_4 D = some v) : ev X (d + 1) 15 (0, [some (.ref 19), some (.ref 4)], [], D, E) (qR none v E) := by
  have hq : kq_m 15 = some kq_q15 := rfl
  unfold g_Church_copyOf_4 at h
  refine gv_n hq 15 (S' := (29, [some (.ref 19), some (.ref 4)], [.int ((sD (sD (sD D 19 0 (D 4 0)) 19 1 ((sD D 19 0 (D 4 0)) 4 1)) 19 2 ((sD (sD D 19 0 (D 4 0)) 19 1 ((sD D 19 0 (D 4 0)) 4 1)) 4 2)) 4 3), .ref 19], (sD (sD (sD D 19 0 (D 4 0)) 19 1 ((sD D 19 0 (D 4 0)) 4 1)) 19 2 ((sD (sD D 19 0 (D 4 0)) 19 1 ((sD D 19 0 (D 4 0)) 4 1)) 4 2)), E)) rfl ?_
  refine gv_zp hq rfl h (S' := (32, [some (.ref 19), some (.ref 4)], [], (sD (sD (sD (sD D 19 0 (D 4 0)) 19 1 ((sD D 19 0 (D 4 0)) 4 1)) 19 2 ((sD (sD D 19 0 (D 4 0)) 19 1 ((sD D 19 0 (D 4 0)) 4 1)) 4 2)) 19 3 ((sD (sD (sD D 19 0 (D 4 0)) 19 1 ((sD D 19 0 (D 4 0)) 4 1)) 19 2 ((sD (sD D 19 0 (D 4 0)) 19 1 ((sD D 19 0 (D 4 0)) 4 1)) 4 2)) 4 3)), E)) rfl (fun h => ?_)
  refine gv_n hq 40 (S' := (105, [some (.ref 19), some (.ref 4)], [.ref 9, .ref 24], (cD (cD (cD (cD (sD (sD (sD (sD (sD D 19 0 (D 4 0)) 19 1 ((sD D 19 0 (D 4 0)) 4 1)) 19 2 ((sD (sD D 19 0 (D 4 0)) 19 1 ((sD D 19 0 (D 4 0)) 4 1)) 4 2)) 19 3 ((sD (sD (sD D 19 0 (D 4 0)) 19 1 ((sD D 19 0 (D 4 0)) 4 1)) 19 2 ((sD (sD D 19 0 (D 4 0)) 19 1 ((sD D 19 0 (D 4 0)) 4 1)) 4 2)) 4 3)) 19 4 ((sD (sD (sD (sD D 19 0 (D 4 0)) 19 1 ((sD D 19 0 (D 4 0)) 4 1)) 19 2 ((sD (sD D 19 0 (D 4 0)) 19 1 ((sD D 19 0 (D 4 0)) 4 1)) 4 2)) 19 3 ((sD (sD (sD D 19 0 (D 4 0)) 19 1 ((sD D 19 0 (D 4 0)) 4 1)) 19 2 ((sD (sD D 19 0 (D 4 0)) 19 1 ((sD D 19 0 (D 4 0)) 4 1)) 4 2)) 4 3)) 4 4)) 5 20 0 0 4) 6 21 0 0 4) 7 22 0 0 4) 8 23 0 0 20), E)) rfl ?_
  refine gv_d hq rfl rfl rfl rfl rfl (gv_dd (by omega) (t_People_copyOf_9 X (d - 1) (by omega) E _ _ rfl)) (S' := (108, [some (.ref 19), some (.ref 4)], [], (g_People_copyOf_9 (cD (cD (cD (cD (sD (sD (sD (sD (sD D 19 0 (D 4 0)) 19 1 ((sD D 19 0 (D 4 0)) 4 1)) 19 2 ((sD (sD D 19 0 (D 4 0)) 19 1 ((sD D 19 0 (D 4 0)) 4 1)) 4 2)) 19 3 ((sD (sD (sD D 19 0 (D 4 0)) 19 1 ((sD D 19 0 (D 4 0)) 4 1)) 19 2 ((sD (sD D 19 0 (D 4 0)) 19 1 ((sD D 19 0 (D 4 0)) 4 1)) 4 2)) 4 3)) 19 4 ((sD (sD (sD (sD D 19 0 (D 4 0)) 19 1 ((sD D 19 0 (D 4 0)) 4 1)) 19 2 ((sD (sD D 19 0 (D 4 0)) 19 1 ((sD D 19 0 (D 4 0)) 4 1)) 4 2)) 19 3 ((sD (sD (sD D 19 0 (D 4 0)) 19 1 ((sD D 19 0 (D 4 0)) 4 1)) 19 2 ((sD (sD D 19 0 (D 4 0)) 19 1 ((sD D 19 0 (D 4 0)) 4 1)) 4 2)) 4 3)) 4 4)) 5 20 0 0 4) 6 21 0 0 4) 7 22 0 0 4) 8 23 0 0 20)), E)) rfl ?_
  refine gv_n hq 32 (S' := (167, [some (.ref 19), some (.ref 4)], [], (cD (cD (sD (cD (sD (g_People_copyOf_9 (cD (cD (cD (cD (sD (sD (sD (sD (sD D 19 0 (D 4 0)) 19 1 ((sD D 19 0 (D 4 0)) 4 1)) 19 2 ((sD (sD D 19 0 (D 4 0)) 19 1 ((sD D 19 0 (D 4 0)) 4 1)) 4 2)) 19 3 ((sD (sD (sD D 19 0 (D 4 0)) 19 1 ((sD D 19 0 (D 4 0)) 4 1)) 19 2 ((sD (sD D 19 0 (D 4 0)) 19 1 ((sD D 19 0 (D 4 0)) 4 1)) 4 2)) 4 3)) 19 4 ((sD (sD (sD (sD D 19 0 (D 4 0)) 19 1 ((sD D 19 0 (D 4 0)) 4 1)) 19 2 ((sD (sD D 19 0 (D 4 0)) 19 1 ((sD D 19 0 (D 4 0)) 4 1)) 4 2)) 19 3 ((sD (sD (sD D 19 0 (D 4 0)) 19 1 ((sD D 19 0 (D 4 0)) 4 1)) 19 2 ((sD (sD D 19 0 (D 4 0)) 19 1 ((sD D 19 0 (D 4 0)) 4 1)) 4 2)) 4 3)) 4 4)) 5 20 0 0 4) 6 21 0 0 4) 7 22 0 0 4) 8 23 0 0 20)) 19 10 ((g_People_copyOf_9 (cD (cD (cD (cD (sD (sD (sD (sD (sD D 19 0 (D 4 0)) 19 1 ((sD D 19 0 (D 4 0)) 4 1)) 19 2 ((sD (sD D 19 0 (D 4 0)) 19 1 ((sD D 19 0 (D 4 0)) 4 1)) 4 2)) 19 3 ((sD (sD (sD D 19 0 (D 4 0)) 19 1 ((sD D 19 0 (D 4 0)) 4 1)) 19 2 ((sD (sD D 19 0 (D 4 0)) 19 1 ((sD D 19 0 (D 4 0)) 4 1)) 4 2)) 4 3)) 19 4 ((sD (sD (sD (sD D 19 0 (D 4 0)) 19 1 ((sD D 19 0 (D 4 0)) 4 1)) 19 2 ((sD (sD D 19 0 (D 4 0)) 19 1 ((sD D 19 0 (D 4 0)) 4 1)) 4 2)) 19 3 ((sD (sD (sD D 19 0 (D 4 0)) 19 1 ((sD D 19 0 (D 4 0)) 4 1)) 19 2 ((sD (sD D 19 0 (D 4 0)) 19 1 ((sD D 19 0 (D 4 0)) 4 1)) 4 2)) 4 3)) 4 4)) 5 20 0 0 4) 6 21 0 0 4) 7 22 0 0 4) 8 23 0 0 20)) 4 10)) 16 31 0 0 8) 19 12 ((cD (sD (g_People_copyOf_9 (cD (cD (cD (cD (sD (sD (sD (sD (sD D 19 0 (D 4 0)) 19 1 ((sD D 19 0 (D 4 0)) 4 1)) 19 2 ((sD (sD D 19 0 (D 4 0)) 19 1 ((sD D 19 0 (D 4 0)) 4 1)) 4 2)) 19 3 ((sD (sD (sD D 19 0 (D 4 0)) 19 1 ((sD D 19 0 (D 4 0)) 4 1)) 19 2 ((sD (sD D 19 0 (D 4 0)) 19 1 ((sD D 19 0 (D 4 0)) 4 1)) 4 2)) 4 3)) 19 4 ((sD (sD (sD (sD D 19 0 (D 4 0)) 19 1 ((sD D 19 0 (D 4 0)) 4 1)) 19 2 ((sD (sD D 19 0 (D 4 0)) 19 1 ((sD D 19 0 (D 4 0)) 4 1)) 4 2)) 19 3 ((sD (sD (sD D 19 0 (D 4 0)) 19 1 ((sD D 19 0 (D 4 0)) 4 1)) 19 2 ((sD (sD D 19 0 (D 4 0)) 19 1 ((sD D 19 0 (D 4 0)) 4 1)) 4 2)) 4 3)) 4 4)) 5 20 0 0 4) 6 21 0 0 4) 7 22 0 0 4) 8 23 0 0 20)) 19 10 ((g_People_copyOf_9 (cD (cD (cD (cD (sD (sD (sD (sD (sD D 19 0 (D 4 0)) 19 1 ((sD D 19 0 (D 4 0)) 4 1)) 19 2 ((sD (sD D 19 0 (D 4 0)) 19 1 ((sD D 19 0 (D 4 0)) 4 1)) 4 2)) 19 3 ((sD (sD (sD D 19 0 (D 4 0)) 19 1 ((sD D 19 0 (D 4 0)) 4 1)) 19 2 ((sD (sD D 19 0 (D 4 0)) 19 1 ((sD D 19 0 (D 4 0)) 4 1)) 4 2)) 4 3)) 19 4 ((sD (sD (sD (sD D 19 0 (D 4 0)) 19 1 ((sD D 19 0 (D 4 0)) 4 1)) 19 2 ((sD (sD D 19 0 (D 4 0)) 19 1 ((sD D 19 0 (D 4 0)) 4 1)) 4 2)) 19 3 ((sD (sD (sD D 19 0 (D 4 0)) 19 1 ((sD D 19 0 (D 4 0)) 4 1)) 19 2 ((sD (sD D 19 0 (D 4 0)) 19 1 ((sD D 19 0 (D 4 0)) 4 1)) 4 2)) 4 3)) 4 4)) 5 20 0 0 4) 6 21 0 0 4) 7 22 0 0 4) 8 23 0 0 20)) 4 10)) 16 31 0 0 8) 4 12)) 17 32 0 0 5) 18 33 0 0 5), E)) rfl ?_
  cases h
  exact ev_ret hq rfl rfl ⟨rfl, rfl, rfl⟩
def g_X_church (F : Nat) (D : mx_D) : Option (Int32 × mx_D) := (Option.bind (g_Reader_readTape F D) (fun r1 => (if r1.1 = 0 then (some ((-4 : Int32), (sD r1.2 1 1 (nI 0)))) else (Option.bind (g_Church_copyOf_4 (sD r1.2 1 1 (nI 0))) (fun r2 => (some ((r2 19 4), r2)))))))
set_option maxRecDepth 100000 in
set_option maxHeartbeats 4000000 in
theorem t_X_church (X : ev_X) (F : Nat) (d : Nat) (hd : 14 ≤ d + 1) (E : mx_E) (D : mx_D) (v : Int32 × mx_D) (h : g_X_church F D = some v) : ev X (d + 1) 107 (0, [some (.ref 0), none], [], D, E) (qR (some (.int v.1)) v.2 E) := by
  have hq : kq_m 107 = some kq_q107 := rfl
  unfold g_X_church at h
  refine gv_n hq 2 (S' := (4, [some (.ref 0), none], [.ref 3], D, E)) rfl ?_
  obtain ⟨r1, h1, h⟩ := Option.bind_eq_some_iff.mp h
  refine gv_d hq rfl rfl rfl rfl rfl (gv_dd (by omega) (t_Reader_readTape X F (d - 1) (by omega) E _ _ h1)) (S' := (7, [some (.ref 0), none], [.int r1.1], r1.2, E)) rfl ?_
  refine gv_n hq 6 (S' := (17, [some (.ref 0), some (.int r1.1)], [.int r1.1], (sD r1.2 1 1 (nI 0)), E)) rfl ?_
  refine gv_b hq rfl h 20 23 rfl rfl rfl (fun h => ?_) (fun h => ?_)
  · refine gv_n hq 1 (S' := (22, [some (.ref 0), some (.int r1.1)], [.int (-4 : Int32)], (sD r1.2 1 1 (nI 0)), E)) rfl ?_
    cases h
    exact ev_ret hq rfl rfl ⟨rfl, rfl, rfl⟩
  · refine gv_n hq 5 (S' := (34, [some (.ref 0), some (.int r1.1)], [.ref 4, .ref 19], (sD r1.2 1 1 (nI 0)), E)) rfl ?_
    obtain ⟨r2, h1, h⟩ := Option.bind_eq_some_iff.mp h
    refine gv_d hq rfl rfl rfl rfl rfl (gv_dd (by omega) (t_Church_copyOf_4 X (d - 1) (by omega) E _ _ h1)) (S' := (37, [some (.ref 0), some (.int r1.1)], [], r2, E)) rfl ?_
    refine gv_n hq 3 (S' := (44, [some (.ref 0), some (.int r1.1)], [.int (r2 19 4)], r2, E)) rfl ?_
    cases h
    exact ev_ret hq rfl rfl ⟨rfl, rfl, rfl⟩
def g_M_see (D : mx_D) (a1 : Int32) : Option (Int32) := (if (D 116 7) ≤ a1 then (some (-1 : Int32)) else (rk 1400 a1 (some ((D 120 (a1).toNatClampNeg) &&& (nI 255)))))
set_option maxRecDepth 100000 in
set_option maxHeartbeats 4000000 in
theorem t_M_see (X : ev_X) (d : Nat) (D : mx_D) (E : mx_E) (a1 : Int32) (v : Int32) (h : g_M_see D a1 = some v) : ev X d 190 (0, [some (.ref 116), some (.int a1)], [], D, E) (qR (some (.int v)) D E) := by
  have hq : kq_m 190 = some kq_q190 := rfl
  unfold g_M_see at h
  refine gv_n hq 3 (S' := (5, [some (.ref 116), some (.int a1)], [.int (D 116 7), .int a1], D, E)) rfl ?_
  refine gv_b hq rfl h 21 8 rfl rfl rfl (fun h => ?_) (fun h => ?_)
  · refine gv_n hq 1 (S' := (22, [some (.ref 116), some (.int a1)], [.int (-1 : Int32)], D, E)) rfl ?_
    cases h
    exact ev_ret hq rfl rfl ⟨rfl, rfl, rfl⟩
  · refine gv_n hq 3 (S' := (13, [some (.ref 116), some (.int a1)], [.int a1, .ref 120], D, E)) rfl ?_
    refine gv_ba1 hq rfl rfl h 14 rfl (fun h => ?_)
    refine gv_n hq 3 (S' := (22, [some (.ref 116), some (.int a1)], [.int ((D 120 (a1).toNatClampNeg) &&& (nI 255))], D, E)) rfl ?_
    cases h
    exact ev_ret hq rfl rfl ⟨rfl, rfl, rfl⟩
def b_M_advance_144 (F : Nat) (k144 : mx_D → Option (mx_D)) (D : mx_D) : Option (mx_D) := (Option.bind (g_M_see D (D 116 8)) (fun r4 => (if (g_M_in ((r4).toInt64) (48 : Int64) (57 : Int64)) = 0 then (some (sD D 116 10 (nI 2))) else (Option.bind (g_M_see D (D 116 8)) (fun r5 => (k144 (sD (sD D 116 11 (imn (nI 99999) ((((nI 10) * (D 116 11)) + r5) - (nI 48)))) 116 8 (((sD D 116 11 (imn (nI 99999) ((((nI 10) * (D 116 11)) + r5) - (nI 48)))) 116 8) + (nI 1)))))))))
set_option maxRecDepth 100000 in
set_option maxHeartbeats 4000000 in
theorem tb_M_advance_144 (X : ev_X) (F : Nat) (d : Nat) (hd : 1 ≤ d + 1) (E : mx_E) (k144 : mx_D → Option (mx_D)) (K144 : ∀ (D : mx_D) (v : mx_D), k144 D = some v → ev X (d + 1) 189 (144, [some (.ref 116), none], [], D, E) (qR none v E)) (D : mx_D) (v : mx_D) (h : b_M_advance_144 F k144 D = some v) : ev X (d + 1) 189 (144, [some (.ref 116), none], [], D, E) (qR none v E) := by
  have hq : kq_m 189 = some kq_q189 := rfl
  unfold b_M_advance_144 at h
  refine gv_n hq 3 (S' := (149, [some (.ref 116), none], [.int (D 116 8), .ref 116], D, E)) rfl ?_
  obtain ⟨r4, h1, h⟩ := Option.bind_eq_some_iff.mp h
  refine gv_d hq rfl rfl rfl rfl rfl ((t_M_see X d D E _ _ h1)) (S' := (152, [some (.ref 116), none], [.int r4], D, E)) rfl ?_
  refine gv_n hq 3 (S' := (159, [some (.ref 116), none], [.long (57 : Int64), .long (48 : Int64), .long ((r4).toInt64)], D, E)) rfl ?_
  refine gv_d hq rfl rfl rfl rfl rfl ((t_M_in X d D E _ _ _ _ rfl)) (S' := (162, [some (.ref 116), none], [.int (g_M_in ((r4).toInt64) (48 : Int64) (57 : Int64))], D, E)) rfl ?_
  refine gv_b hq rfl h 206 165 rfl rfl rfl (fun h => ?_) (fun h => ?_)
  · refine gv_n hq 4 (S' := (239, [some (.ref 116), none], [], (sD D 116 10 (nI 2)), E)) rfl ?_
    cases h
    exact ev_ret hq rfl rfl ⟨rfl, rfl, rfl⟩
  · refine gv_n hq 9 (S' := (180, [some (.ref 116), none], [.int (D 116 8), .ref 116, .int ((nI 10) * (D 116 11)), .int (nI 99999), .ref 116], D, E)) rfl ?_
    obtain ⟨r5, h1, h⟩ := Option.bind_eq_some_iff.mp h
    refine gv_d hq rfl rfl rfl rfl rfl ((t_M_see X d D E _ _ h1)) (S' := (183, [some (.ref 116), none], [.int r5, .int ((nI 10) * (D 116 11)), .int (nI 99999), .ref 116], D, E)) rfl ?_
    refine gv_n hq 12 (S' := (144, [some (.ref 116), none], [], (sD (sD D 116 11 (imn (nI 99999) ((((nI 10) * (D 116 11)) + r5) - (nI 48)))) 116 8 (((sD D 116 11 (imn (nI 99999) ((((nI 10) * (D 116 11)) + r5) - (nI 48)))) 116 8) + (nI 1))), E)) rfl ?_
    exact gv_w (K144 _ _ h) (And.intro rfl trivial)
def g_M_advance_144 (F : Nat) : Nat → mx_D → Option (mx_D) := it (fun k144 => b_M_advance_144 F k144) (fun _ => none)
set_option maxRecDepth 100000 in
set_option maxHeartbeats 4000000 in
theorem t_M_advance_144 (X : ev_X) (F : Nat) (d : Nat) (hd : 1 ≤ d + 1) (E : mx_E)  : ∀ (n : Nat) (D : mx_D) (v : mx_D), g_M_advance_144 F n D = some v → ev X (d + 1) 189 (144, [some (.ref 116), none], [], D, E) (qR none v E) := by
  intro n
  induction n with
  | zero => intro D v h; cases h
  | succ n ih => intro D v h; exact tb_M_advance_144 X F d hd E (g_M_advance_144 F n) ih D v h
def b_M_advance_83 (F : Nat) (k83 : mx_D → Option (mx_D)) (D : mx_D) : Option (mx_D) := (Option.bind (g_M_see D (D 116 8)) (fun r6 => (if (g_M_in ((r6).toInt64) (97 : Int64) (122 : Int64)) = 0 then (some (sD D 116 10 (nI 1))) else (k83 (sD D 116 8 ((D 116 8) + (nI 1)))))))
set_option maxRecDepth 100000 in
set_option maxHeartbeats 4000000 in
theorem tb_M_advance_83 (X : ev_X) (F : Nat) (d : Nat) (hd : 1 ≤ d + 1) (E : mx_E) (k83 : mx_D → Option (mx_D)) (K83 : ∀ (D : mx_D) (v : mx_D), k83 D = some v → ev X (d + 1) 189 (83, [some (.ref 116), none], [], D, E) (qR none v E)) (D : mx_D) (v : mx_D) (h : b_M_advance_83 F k83 D = some v) : ev X (d + 1) 189 (83, [some (.ref 116), none], [], D, E) (qR none v E) := by
  have hq : kq_m 189 = some kq_q189 := rfl
  unfold b_M_advance_83 at h
  refine gv_n hq 3 (S' := (88, [some (.ref 116), none], [.int (D 116 8), .ref 116], D, E)) rfl ?_
  obtain ⟨r6, h1, h⟩ := Option.bind_eq_some_iff.mp h
  refine gv_d hq rfl rfl rfl rfl rfl ((t_M_see X d D E _ _ h1)) (S' := (91, [some (.ref 116), none], [.int r6], D, E)) rfl ?_
  refine gv_n hq 3 (S' := (98, [some (.ref 116), none], [.long (122 : Int64), .long (97 : Int64), .long ((r6).toInt64)], D, E)) rfl ?_
  refine gv_d hq rfl rfl rfl rfl rfl ((t_M_in X d D E _ _ _ _ rfl)) (S' := (101, [some (.ref 116), none], [.int (g_M_in ((r6).toInt64) (97 : Int64) (122 : Int64))], D, E)) rfl ?_
  refine gv_b hq rfl h 117 104 rfl rfl rfl (fun h => ?_) (fun h => ?_)
  · refine gv_n hq 4 (S' := (239, [some (.ref 116), none], [], (sD D 116 10 (nI 1)), E)) rfl ?_
    cases h
    exact ev_ret hq rfl rfl ⟨rfl, rfl, rfl⟩
  · refine gv_n hq 7 (S' := (83, [some (.ref 116), none], [], (sD D 116 8 ((D 116 8) + (nI 1))), E)) rfl ?_
    exact gv_w (K83 _ _ h) (And.intro rfl trivial)
def g_M_advance_83 (F : Nat) : Nat → mx_D → Option (mx_D) := it (fun k83 => b_M_advance_83 F k83) (fun _ => none)
set_option maxRecDepth 100000 in
set_option maxHeartbeats 4000000 in
theorem t_M_advance_83 (X : ev_X) (F : Nat) (d : Nat) (hd : 1 ≤ d + 1) (E : mx_E)  : ∀ (n : Nat) (D : mx_D) (v : mx_D), g_M_advance_83 F n D = some v → ev X (d + 1) 189 (83, [some (.ref 116), none], [], D, E) (qR none v E) := by
  intro n
  induction n with
  | zero => intro D v h; cases h
  | succ n ih => intro D v h; exact tb_M_advance_83 X F d hd E (g_M_advance_83 F n) ih D v h
def b_M_advance_39 (F : Nat) (D : mx_D) : Option (mx_D) := (Option.bind (g_M_see (sD D 116 9 (D 116 8)) ((sD D 116 9 (D 116 8)) 116 8)) (fun r3 => (if r3 = (-1 : Int32) then (some (sD (sD D 116 9 (D 116 8)) 116 10 (nI 0))) else (if (g_M_in ((r3).toInt64) (97 : Int64) (122 : Int64)) = 0 then (if (g_M_in ((r3).toInt64) (48 : Int64) (57 : Int64)) = 0 then (if r3 = (nI 59) then (some (sD (sD (sD D 116 9 (D 116 8)) 116 10 (nI 3)) 116 8 (((sD (sD D 116 9 (D 116 8)) 116 10 (nI 3)) 116 8) + (nI 1)))) else (some (sD (sD (sD D 116 9 (D 116 8)) 116 10 (nI 4)) 116 8 (((sD (sD D 116 9 (D 116 8)) 116 10 (nI 4)) 116 8) + (nI 1))))) else (g_M_advance_144 F F (sD (sD D 116 9 (D 116 8)) 116 11 (nI 0)))) else (g_M_advance_83 F F (sD D 116 9 (D 116 8)))))))
set_option maxRecDepth 100000 in
set_option maxHeartbeats 4000000 in
theorem tb_M_advance_39 (X : ev_X) (F : Nat) (d : Nat) (hd : 1 ≤ d + 1) (E : mx_E)  (D : mx_D) (v : mx_D) (h : b_M_advance_39 F D = some v) : ev X (d + 1) 189 (39, [some (.ref 116), none], [], D, E) (qR none v E) := by
  have hq : kq_m 189 = some kq_q189 := rfl
  unfold b_M_advance_39 at h
  refine gv_n hq 7 (S' := (52, [some (.ref 116), none], [.int ((sD D 116 9 (D 116 8)) 116 8), .ref 116], (sD D 116 9 (D 116 8)), E)) rfl ?_
  obtain ⟨r3, h1, h⟩ := Option.bind_eq_some_iff.mp h
  refine gv_d hq rfl rfl rfl rfl rfl ((t_M_see X d (sD D 116 9 (D 116 8)) E _ _ h1)) (S' := (55, [some (.ref 116), none], [.int r3], (sD D 116 9 (D 116 8)), E)) rfl ?_
  refine gv_n hq 3 (S' := (58, [some (.ref 116), some (.int r3)], [.int (-1 : Int32), .int r3], (sD D 116 9 (D 116 8)), E)) rfl ?_
  refine gv_b hq rfl h 61 69 rfl rfl rfl (fun h => ?_) (fun h => ?_)
  · refine gv_n hq 4 (S' := (239, [some (.ref 116), some (.int r3)], [], (sD (sD D 116 9 (D 116 8)) 116 10 (nI 0)), E)) rfl ?_
    cases h
    exact ev_ret hq rfl rfl ⟨rfl, rfl, rfl⟩
  · refine gv_n hq 4 (S' := (77, [some (.ref 116), some (.int r3)], [.long (122 : Int64), .long (97 : Int64), .long ((r3).toInt64)], (sD D 116 9 (D 116 8)), E)) rfl ?_
    refine gv_d hq rfl rfl rfl rfl rfl ((t_M_in X d (sD D 116 9 (D 116 8)) E _ _ _ _ rfl)) (S' := (80, [some (.ref 116), some (.int r3)], [.int (g_M_in ((r3).toInt64) (97 : Int64) (122 : Int64))], (sD D 116 9 (D 116 8)), E)) rfl ?_
    refine gv_b hq rfl h 125 83 rfl rfl rfl (fun h => ?_) (fun h => ?_)
    · refine gv_n hq 4 (S' := (133, [some (.ref 116), some (.int r3)], [.long (57 : Int64), .long (48 : Int64), .long ((r3).toInt64)], (sD D 116 9 (D 116 8)), E)) rfl ?_
      refine gv_d hq rfl rfl rfl rfl rfl ((t_M_in X d (sD D 116 9 (D 116 8)) E _ _ _ _ rfl)) (S' := (136, [some (.ref 116), some (.int r3)], [.int (g_M_in ((r3).toInt64) (48 : Int64) (57 : Int64))], (sD D 116 9 (D 116 8)), E)) rfl ?_
      refine gv_b hq rfl h 214 139 rfl rfl rfl (fun h => ?_) (fun h => ?_)
      · refine gv_n hq 3 (S' := (218, [some (.ref 116), some (.int r3)], [.int (nI 59), .int r3, .ref 116], (sD D 116 9 (D 116 8)), E)) rfl ?_
        refine gv_b hq rfl h 221 225 rfl rfl rfl (fun h => ?_) (fun h => ?_)
        · refine gv_n hq 9 (S' := (239, [some (.ref 116), some (.int r3)], [], (sD (sD (sD D 116 9 (D 116 8)) 116 10 (nI 3)) 116 8 (((sD (sD D 116 9 (D 116 8)) 116 10 (nI 3)) 116 8) + (nI 1))), E)) rfl ?_
          cases h
          exact ev_ret hq rfl rfl ⟨rfl, rfl, rfl⟩
        · refine gv_n hq 8 (S' := (239, [some (.ref 116), some (.int r3)], [], (sD (sD (sD D 116 9 (D 116 8)) 116 10 (nI 4)) 116 8 (((sD (sD D 116 9 (D 116 8)) 116 10 (nI 4)) 116 8) + (nI 1))), E)) rfl ?_
          cases h
          exact ev_ret hq rfl rfl ⟨rfl, rfl, rfl⟩
      · refine gv_n hq 3 (S' := (144, [some (.ref 116), some (.int r3)], [], (sD (sD D 116 9 (D 116 8)) 116 11 (nI 0)), E)) rfl ?_
        exact gv_w (t_M_advance_144 X F d hd E F _ _ h) (And.intro rfl trivial)
    · exact gv_w (t_M_advance_83 X F d hd E F _ _ h) (And.intro rfl trivial)
def b_M_advance_0 (F : Nat) (k0 : mx_D → Option (mx_D)) (D : mx_D) : Option (mx_D) := (Option.bind (g_M_see D (D 116 8)) (fun r1 => (if r1 = (nI 32) then (k0 (sD D 116 8 ((D 116 8) + (nI 1)))) else (Option.bind (g_M_see D (D 116 8)) (fun r2 => (if r2 = (nI 10) then (k0 (sD D 116 8 ((D 116 8) + (nI 1)))) else (b_M_advance_39 F D)))))))
set_option maxRecDepth 100000 in
set_option maxHeartbeats 4000000 in
theorem tb_M_advance_0 (X : ev_X) (F : Nat) (d : Nat) (hd : 1 ≤ d + 1) (E : mx_E) (k0 : mx_D → Option (mx_D)) (K0 : ∀ (D : mx_D) (v : mx_D), k0 D = some v → ev X (d + 1) 189 (0, [some (.ref 116), none], [], D, E) (qR none v E)) (D : mx_D) (v : mx_D) (h : b_M_advance_0 F k0 D = some v) : ev X (d + 1) 189 (0, [some (.ref 116), none], [], D, E) (qR none v E) := by
  have hq : kq_m 189 = some kq_q189 := rfl
  unfold b_M_advance_0 at h
  refine gv_n hq 3 (S' := (5, [some (.ref 116), none], [.int (D 116 8), .ref 116], D, E)) rfl ?_
  obtain ⟨r1, h1, h⟩ := Option.bind_eq_some_iff.mp h
  refine gv_d hq rfl rfl rfl rfl rfl ((t_M_see X d D E _ _ h1)) (S' := (8, [some (.ref 116), none], [.int r1], D, E)) rfl ?_
  refine gv_n hq 1 (S' := (10, [some (.ref 116), none], [.int (nI 32), .int r1], D, E)) rfl ?_
  refine gv_b hq rfl h 26 13 rfl rfl rfl (fun h => ?_) (fun h => ?_)
  · refine gv_n hq 7 (S' := (0, [some (.ref 116), none], [], (sD D 116 8 ((D 116 8) + (nI 1))), E)) rfl ?_
    exact gv_w (K0 _ _ h) (And.intro rfl trivial)
  · refine gv_n hq 3 (S' := (18, [some (.ref 116), none], [.int (D 116 8), .ref 116], D, E)) rfl ?_
    obtain ⟨r2, h1, h⟩ := Option.bind_eq_some_iff.mp h
    refine gv_d hq rfl rfl rfl rfl rfl ((t_M_see X d D E _ _ h1)) (S' := (21, [some (.ref 116), none], [.int r2], D, E)) rfl ?_
    refine gv_n hq 1 (S' := (23, [some (.ref 116), none], [.int (nI 10), .int r2], D, E)) rfl ?_
    refine gv_b hq rfl h 26 39 rfl rfl rfl (fun h => ?_) (fun h => ?_)
    · refine gv_n hq 7 (S' := (0, [some (.ref 116), none], [], (sD D 116 8 ((D 116 8) + (nI 1))), E)) rfl ?_
      exact gv_w (K0 _ _ h) (And.intro rfl trivial)
    · exact gv_w (tb_M_advance_39 X F d hd E _ _ h) (And.intro rfl trivial)
def g_M_advance_0 (F : Nat) : Nat → mx_D → Option (mx_D) := it (fun k0 => b_M_advance_0 F k0) (fun _ => none)
set_option maxRecDepth 100000 in
set_option maxHeartbeats 4000000 in
theorem t_M_advance_0 (X : ev_X) (F : Nat) (d : Nat) (hd : 1 ≤ d + 1) (E : mx_E)  : ∀ (n : Nat) (D : mx_D) (v : mx_D), g_M_advance_0 F n D = some v → ev X (d + 1) 189 (0, [some (.ref 116), none], [], D, E) (qR none v E) := by
  intro n
  induction n with
  | zero => intro D v h; cases h
  | succ n ih => intro D v h; exact tb_M_advance_0 X F d hd E (g_M_advance_0 F n) ih D v h
def g_M_advance (F : Nat) (D : mx_D) : Option (mx_D) := (g_M_advance_0 F F D)
set_option maxRecDepth 100000 in
set_option maxHeartbeats 4000000 in
theorem t_M_advance (X : ev_X) (F : Nat) (d : Nat) (hd : 1 ≤ d + 1) (E : mx_E) (D : mx_D) (v : mx_D) (h : g_M_advance F D = some v) : ev X (d + 1) 189 (0, [some (.ref 116), none], [], D, E) (qR none v E) := by
  have hq : kq_m 189 = some kq_q189 := rfl
  unfold g_M_advance at h
  exact gv_w (t_M_advance_0 X F d hd E F _ _ h) (And.intro rfl trivial)
def g_M_good (D : mx_D) : Int32 := (if (D 116 12) = 0 then (nI 1) else (nI 0))
set_option maxRecDepth 100000 in
set_option maxHeartbeats 4000000 in
theorem t_M_good (X : ev_X) (d : Nat) (D : mx_D) (E : mx_E) (v : Int32) (h : g_M_good D = v) : ev X d 191 (0, [some (.ref 116)], [], D, E) (qR (some (.int v)) D E) := by
  have hq : kq_m 191 = some kq_q191 := rfl
  unfold g_M_good at h
  refine gv_n hq 2 (S' := (4, [some (.ref 116)], [.int (D 116 12)], D, E)) rfl ?_
  refine gv_b hq rfl h 7 11 rfl rfl rfl (fun h => ?_) (fun h => ?_)
  · refine gv_n hq 2 (S' := (12, [some (.ref 116)], [.int (nI 1)], D, E)) rfl ?_
    subst h
    exact ev_ret hq rfl rfl ⟨rfl, rfl, rfl⟩
  · refine gv_n hq 1 (S' := (12, [some (.ref 116)], [.int (nI 0)], D, E)) rfl ?_
    subst h
    exact ev_ret hq rfl rfl ⟨rfl, rfl, rfl⟩
theorem z_M_good (D : mx_D) : g_M_good D = 0 ∨ g_M_good D = 1 := by
  unfold g_M_good
  (repeat' split) <;> first | exact Or.inl rfl | exact Or.inr rfl
def b_M_is_39 (F : Nat) (D : mx_D) (k39 : Nat → Int32 → Int32 → Option (Int32)) (l1 : Nat) (l2 : Int32) (l3 : Int32) : Option (Int32) := (Option.bind (st_len l1) (fun r1 => (if r1 ≤ l3 then (zk l2 (some l2)) else (if l2 = 0 then (zk l2 (some l2)) else (rk 1400 ((D 116 9) + l3) (Option.bind (st_at l1 l3) (fun r2 => (if (D 120 (((D 116 9) + l3)).toNatClampNeg) = r2 then (k39 l1 (nI 1) (l3 + (nI 1))) else (k39 l1 (nI 0) (l3 + (nI 1)))))))))))
set_option maxRecDepth 100000 in
set_option maxHeartbeats 4000000 in
theorem tb_M_is_39 (X : ev_X) (F : Nat) (d : Nat) (hd : 9 ≤ d + 1) (D : mx_D) (E : mx_E) (k39 : Nat → Int32 → Int32 → Option (Int32)) (K39 : ∀ (l1 : Nat) (l2 : Int32) (l3 : Int32) (v : Int32), k39 l1 l2 l3 = some v → ev X (d + 1) 196 (39, [some (.ref 116), some (.ref l1), some (.int l2), some (.int l3)], [], D, E) (qR (some (.int v)) D E)) (l1 : Nat) (l2 : Int32) (l3 : Int32) (v : Int32) (h : b_M_is_39 F D k39 l1 l2 l3 = some v) : ev X (d + 1) 196 (39, [some (.ref 116), some (.ref l1), some (.int l2), some (.int l3)], [], D, E) (qR (some (.int v)) D E) := by
  have hq : kq_m 196 = some kq_q196 := rfl
  unfold b_M_is_39 at h
  refine gv_n hq 2 (S' := (41, [some (.ref 116), some (.ref l1), some (.int l2), some (.int l3)], [.ref l1, .int l3], D, E)) rfl ?_
  obtain ⟨r1, h1, h⟩ := Option.bind_eq_some_iff.mp h
  refine gv_s hq rfl rfl (st_len_sp h1) (by omega) (S' := (44, [some (.ref 116), some (.ref l1), some (.int l2), some (.int l3)], [.int r1, .int l3], D, E)) rfl ?_
  refine gv_b hq rfl h 82 47 rfl rfl rfl (fun h => ?_) (fun h => ?_)
  · refine gv_n hq 1 (S' := (83, [some (.ref 116), some (.ref l1), some (.int l2), some (.int l3)], [.int l2], D, E)) rfl ?_
    obtain ⟨hz, h⟩ := gv_zi h
    cases h
    exact ev_rz hq rfl rfl rfl hz ⟨rfl, rfl, rfl⟩
  · refine gv_n hq 1 (S' := (48, [some (.ref 116), some (.ref l1), some (.int l2), some (.int l3)], [.int l2], D, E)) rfl ?_
    refine gv_b hq rfl h 82 51 rfl rfl rfl (fun h => ?_) (fun h => ?_)
    · refine gv_n hq 1 (S' := (83, [some (.ref 116), some (.ref l1), some (.int l2), some (.int l3)], [.int l2], D, E)) rfl ?_
      obtain ⟨hz, h⟩ := gv_zi h
      cases h
      exact ev_rz hq rfl rfl rfl hz ⟨rfl, rfl, rfl⟩
    · refine gv_n hq 6 (S' := (61, [some (.ref 116), some (.ref l1), some (.int l2), some (.int l3)], [.int ((D 116 9) + l3), .ref 120], D, E)) rfl ?_
      refine gv_ba1 hq rfl rfl h 62 rfl (fun h => ?_)
      refine gv_n hq 2 (S' := (64, [some (.ref 116), some (.ref l1), some (.int l2), some (.int l3)], [.int l3, .ref l1, .int (D 120 (((D 116 9) + l3)).toNatClampNeg)], D, E)) rfl ?_
      obtain ⟨r2, h1, h⟩ := Option.bind_eq_some_iff.mp h
      refine gv_s hq rfl rfl (st_at_sp h1) (by omega) (S' := (67, [some (.ref 116), some (.ref l1), some (.int l2), some (.int l3)], [.int r2, .int (D 120 (((D 116 9) + l3)).toNatClampNeg)], D, E)) rfl ?_
      refine gv_b hq rfl h 70 74 rfl rfl rfl (fun h => ?_) (fun h => ?_)
      · refine gv_n hq 5 (S' := (39, [some (.ref 116), some (.ref l1), some (.int (nI 1)), some (.int (l3 + (nI 1)))], [], D, E)) rfl ?_
        exact gv_w (K39 _ _ _ _ h) (And.intro rfl (And.intro rfl (And.intro rfl (And.intro rfl trivial))))
      · refine gv_n hq 4 (S' := (39, [some (.ref 116), some (.ref l1), some (.int (nI 0)), some (.int (l3 + (nI 1)))], [], D, E)) rfl ?_
        exact gv_w (K39 _ _ _ _ h) (And.intro rfl (And.intro rfl (And.intro rfl (And.intro rfl trivial))))
def g_M_is_39 (F : Nat) (D : mx_D) : Nat → Nat → Int32 → Int32 → Option (Int32) := it (fun k39 => b_M_is_39 F D k39) (fun _ _ _ => none)
set_option maxRecDepth 100000 in
set_option maxHeartbeats 4000000 in
theorem t_M_is_39 (X : ev_X) (F : Nat) (d : Nat) (hd : 9 ≤ d + 1) (D : mx_D) (E : mx_E)  : ∀ (n : Nat) (l1 : Nat) (l2 : Int32) (l3 : Int32) (v : Int32), g_M_is_39 F D n l1 l2 l3 = some v → ev X (d + 1) 196 (39, [some (.ref 116), some (.ref l1), some (.int l2), some (.int l3)], [], D, E) (qR (some (.int v)) D E) := by
  intro n
  induction n with
  | zero => intro l1 l2 l3 v h; cases h
  | succ n ih => intro l1 l2 l3 v h; exact tb_M_is_39 X F d hd D E (g_M_is_39 F D n) ih l1 l2 l3 v h
def g_M_is (F : Nat) (D : mx_D) (w1 : Nat) : Option (Int32) := (if (g_M_good D) = 0 then (g_M_is_39 F D F w1 (nI 0) (nI 0)) else (if (D 116 10) = (nI 1) then (Option.bind (st_len w1) (fun r3 => (if ((D 116 8) - (D 116 9)) = r3 then (g_M_is_39 F D F w1 (nI 1) (nI 0)) else (g_M_is_39 F D F w1 (nI 0) (nI 0))))) else (g_M_is_39 F D F w1 (nI 0) (nI 0))))
set_option maxRecDepth 100000 in
set_option maxHeartbeats 4000000 in
theorem t_M_is (X : ev_X) (F : Nat) (d : Nat) (hd : 9 ≤ d + 1) (D : mx_D) (E : mx_E) (w1 : Nat) (v : Int32) (h : g_M_is F D w1 = some v) : ev X (d + 1) 196 (0, [some (.ref 116), some (.ref w1), none, none], [], D, E) (qR (some (.int v)) D E) := by
  have hq : kq_m 196 = some kq_q196 := rfl
  unfold g_M_is at h
  refine gv_n hq 1 (S' := (1, [some (.ref 116), some (.ref w1), none, none], [.ref 116], D, E)) rfl ?_
  refine gv_d hq rfl rfl rfl rfl rfl ((t_M_good X d D E _ rfl)) (S' := (4, [some (.ref 116), some (.ref w1), none, none], [.int (g_M_good D)], D, E)) rfl ?_
  refine gv_b hq rfl h 35 7 rfl rfl rfl (fun h => ?_) (fun h => ?_)
  · refine gv_n hq 4 (S' := (39, [some (.ref 116), some (.ref w1), some (.int (nI 0)), some (.int (nI 0))], [], D, E)) rfl ?_
    exact gv_w (t_M_is_39 X F d hd D E F _ _ _ _ h) (And.intro rfl (And.intro rfl (And.intro rfl (And.intro rfl trivial))))
  · refine gv_n hq 3 (S' := (12, [some (.ref 116), some (.ref w1), none, none], [.int (nI 1), .int (D 116 10)], D, E)) rfl ?_
    refine gv_b hq rfl h 15 35 rfl rfl rfl (fun h => ?_) (fun h => ?_)
    · refine gv_n hq 6 (S' := (25, [some (.ref 116), some (.ref w1), none, none], [.ref w1, .int ((D 116 8) - (D 116 9))], D, E)) rfl ?_
      obtain ⟨r3, h1, h⟩ := Option.bind_eq_some_iff.mp h
      refine gv_s hq rfl rfl (st_len_sp h1) (by omega) (S' := (28, [some (.ref 116), some (.ref w1), none, none], [.int r3, .int ((D 116 8) - (D 116 9))], D, E)) rfl ?_
      refine gv_b hq rfl h 31 35 rfl rfl rfl (fun h => ?_) (fun h => ?_)
      · refine gv_n hq 5 (S' := (39, [some (.ref 116), some (.ref w1), some (.int (nI 1)), some (.int (nI 0))], [], D, E)) rfl ?_
        exact gv_w (t_M_is_39 X F d hd D E F _ _ _ _ h) (And.intro rfl (And.intro rfl (And.intro rfl (And.intro rfl trivial))))
      · refine gv_n hq 4 (S' := (39, [some (.ref 116), some (.ref w1), some (.int (nI 0)), some (.int (nI 0))], [], D, E)) rfl ?_
        exact gv_w (t_M_is_39 X F d hd D E F _ _ _ _ h) (And.intro rfl (And.intro rfl (And.intro rfl (And.intro rfl trivial))))
    · refine gv_n hq 4 (S' := (39, [some (.ref 116), some (.ref w1), some (.int (nI 0)), some (.int (nI 0))], [], D, E)) rfl ?_
      exact gv_w (t_M_is_39 X F d hd D E F _ _ _ _ h) (And.intro rfl (And.intro rfl (And.intro rfl (And.intro rfl trivial))))
def g_M_takes (F : Nat) (w1 : Nat) (D : mx_D) : Option (Int32 × mx_D) := (Option.bind (g_M_is F D w1) (fun r1 => (if r1 = 0 then (zk r1 (some (r1, D))) else (Option.bind (g_M_advance F D) (fun r2 => (zk r1 (some (r1, r2))))))))
set_option maxRecDepth 100000 in
set_option maxHeartbeats 4000000 in
theorem t_M_takes (X : ev_X) (F : Nat) (d : Nat) (hd : 10 ≤ d + 1) (E : mx_E) (w1 : Nat) (D : mx_D) (v : Int32 × mx_D) (h : g_M_takes F w1 D = some v) : ev X (d + 1) 195 (0, [some (.ref 116), some (.ref w1), none], [], D, E) (qR (some (.int v.1)) v.2 E) := by
  have hq : kq_m 195 = some kq_q195 := rfl
  unfold g_M_takes at h
  refine gv_n hq 2 (S' := (2, [some (.ref 116), some (.ref w1), none], [.ref w1, .ref 116], D, E)) rfl ?_
  obtain ⟨r1, h1, h⟩ := Option.bind_eq_some_iff.mp h
  refine gv_d hq rfl rfl rfl rfl rfl (gv_dd (by omega) (t_M_is X F (d - 1) (by omega) D E _ _ h1)) (S' := (5, [some (.ref 116), some (.ref w1), none], [.int r1], D, E)) rfl ?_
  refine gv_n hq 2 (S' := (7, [some (.ref 116), some (.ref w1), some (.int r1)], [.int r1], D, E)) rfl ?_
  refine gv_b hq rfl h 14 10 rfl rfl rfl (fun h => ?_) (fun h => ?_)
  · refine gv_n hq 1 (S' := (15, [some (.ref 116), some (.ref w1), some (.int r1)], [.int r1], D, E)) rfl ?_
    obtain ⟨hz, h⟩ := gv_zi h
    cases h
    exact ev_rz hq rfl rfl rfl hz ⟨rfl, rfl, rfl⟩
  · refine gv_n hq 1 (S' := (11, [some (.ref 116), some (.ref w1), some (.int r1)], [.ref 116], D, E)) rfl ?_
    obtain ⟨r2, h1, h⟩ := Option.bind_eq_some_iff.mp h
    refine gv_d hq rfl rfl rfl rfl rfl (gv_dd (by omega) (t_M_advance X F (d - 1) (by omega) E _ _ h1)) (S' := (14, [some (.ref 116), some (.ref w1), some (.int r1)], [], r2, E)) rfl ?_
    refine gv_n hq 1 (S' := (15, [some (.ref 116), some (.ref w1), some (.int r1)], [.int r1], r2, E)) rfl ?_
    obtain ⟨hz, h⟩ := gv_zi h
    cases h
    exact ev_rz hq rfl rfl rfl hz ⟨rfl, rfl, rfl⟩
def g_M_errs (a1 : Int32) (D : mx_D) : mx_D := (if (g_M_good D) = 0 then D else (sD (sD D 116 12 a1) 116 13 ((sD D 116 12 a1) 116 9)))
set_option maxRecDepth 100000 in
set_option maxHeartbeats 4000000 in
theorem t_M_errs (X : ev_X) (d : Nat) (hd : 1 ≤ d + 1) (E : mx_E) (a1 : Int32) (D : mx_D) (v : mx_D) (h : g_M_errs a1 D = v) : ev X (d + 1) 197 (0, [some (.ref 116), some (.int a1)], [], D, E) (qR none v E) := by
  have hq : kq_m 197 = some kq_q197 := rfl
  unfold g_M_errs at h
  refine gv_n hq 1 (S' := (1, [some (.ref 116), some (.int a1)], [.ref 116], D, E)) rfl ?_
  refine gv_d hq rfl rfl rfl rfl rfl ((t_M_good X d D E _ rfl)) (S' := (4, [some (.ref 116), some (.int a1)], [.int (g_M_good D)], D, E)) rfl ?_
  refine gv_b hq rfl h 7 8 rfl rfl rfl (fun h => ?_) (fun h => ?_)
  · subst h
    exact ev_ret hq rfl rfl ⟨rfl, rfl, rfl⟩
  · refine gv_n hq 7 (S' := (21, [some (.ref 116), some (.int a1)], [], (sD (sD D 116 12 a1) 116 13 ((sD D 116 12 a1) 116 9)), E)) rfl ?_
    subst h
    exact ev_ret hq rfl rfl ⟨rfl, rfl, rfl⟩
def g_M_needs (F : Nat) (w1 : Nat) (D : mx_D) : Option (mx_D) := (Option.bind (g_M_takes F w1 D) (fun r1 => (if r1.1 = 0 then (some (g_M_errs (nI 1) r1.2)) else (some r1.2))))
set_option maxRecDepth 100000 in
set_option maxHeartbeats 4000000 in
theorem t_M_needs (X : ev_X) (F : Nat) (d : Nat) (hd : 11 ≤ d + 1) (E : mx_E) (w1 : Nat) (D : mx_D) (v : mx_D) (h : g_M_needs F w1 D = some v) : ev X (d + 1) 194 (0, [some (.ref 116), some (.ref w1)], [], D, E) (qR none v E) := by
  have hq : kq_m 194 = some kq_q194 := rfl
  unfold g_M_needs at h
  refine gv_n hq 2 (S' := (2, [some (.ref 116), some (.ref w1)], [.ref w1, .ref 116], D, E)) rfl ?_
  obtain ⟨r1, h1, h⟩ := Option.bind_eq_some_iff.mp h
  refine gv_d hq rfl rfl rfl rfl rfl (gv_dd (by omega) (t_M_takes X F (d - 1) (by omega) E _ _ _ h1)) (S' := (5, [some (.ref 116), some (.ref w1)], [.int r1.1], r1.2, E)) rfl ?_
  refine gv_b hq rfl h 8 13 rfl rfl rfl (fun h => ?_) (fun h => ?_)
  · refine gv_n hq 2 (S' := (10, [some (.ref 116), some (.ref w1)], [.int (nI 1), .ref 116], r1.2, E)) rfl ?_
    refine gv_d hq rfl rfl rfl rfl rfl (gv_dd (by omega) (t_M_errs X (d - 1) (by omega) E _ _ _ rfl)) (S' := (13, [some (.ref 116), some (.ref w1)], [], (g_M_errs (nI 1) r1.2), E)) rfl ?_
    cases h
    exact ev_ret hq rfl rfl ⟨rfl, rfl, rfl⟩
  · cases h
    exact ev_ret hq rfl rfl ⟨rfl, rfl, rfl⟩
def b_M_number_47 (F : Nat) (D : mx_D) : Option (Int32 × mx_D) := (if (g_M_good D) = 0 then (some ((nI 0), D)) else (Option.bind (g_M_advance F D) (fun r1 => (some ((D 116 11), r1)))))
set_option maxRecDepth 100000 in
set_option maxHeartbeats 4000000 in
theorem tb_M_number_47 (X : ev_X) (F : Nat) (d : Nat) (hd : 2 ≤ d + 1) (E : mx_E)  (D : mx_D) (v : Int32 × mx_D) (h : b_M_number_47 F D = some v) : ev X (d + 1) 199 (47, [some (.ref 116), none, none, none], [], D, E) (qR (some (.int v.1)) v.2 E) := by
  have hq : kq_m 199 = some kq_q199 := rfl
  unfold b_M_number_47 at h
  refine gv_n hq 1 (S' := (48, [some (.ref 116), none, none, none], [.ref 116], D, E)) rfl ?_
  refine gv_d hq rfl rfl rfl rfl rfl ((t_M_good X d D E _ rfl)) (S' := (51, [some (.ref 116), none, none, none], [.int (g_M_good D)], D, E)) rfl ?_
  refine gv_b hq rfl h 54 56 rfl rfl rfl (fun h => ?_) (fun h => ?_)
  · refine gv_n hq 1 (S' := (55, [some (.ref 116), none, none, none], [.int (nI 0)], D, E)) rfl ?_
    cases h
    exact ev_ret hq rfl rfl ⟨rfl, rfl, rfl⟩
  · refine gv_n hq 4 (S' := (62, [some (.ref 116), none, none, some (.int (D 116 11))], [.ref 116], D, E)) rfl ?_
    obtain ⟨r1, h1, h⟩ := Option.bind_eq_some_iff.mp h
    refine gv_d hq rfl rfl rfl rfl rfl (gv_dd (by omega) (t_M_advance X F (d - 1) (by omega) E _ _ h1)) (S' := (65, [some (.ref 116), none, none, some (.int (D 116 11))], [], r1, E)) rfl ?_
    refine gv_n hq 1 (S' := (66, [some (.ref 116), none, none, some (.int (D 116 11))], [.int (D 116 11)], r1, E)) rfl ?_
    cases h
    exact ev_ret hq rfl rfl ⟨rfl, rfl, rfl⟩
def b_M_number_20 (F : Nat) (l1 : Int32) (l2 : Int32) (D : mx_D) : Option (Int32 × mx_D) := (if (g_M_good D) = 0 then (b_M_number_47 F D) else (if (g_M_in (((D 116 11)).toInt64) ((l1).toInt64) ((l2).toInt64)) = 0 then (b_M_number_47 F (g_M_errs (nI 2) D)) else (b_M_number_47 F D)))
set_option maxRecDepth 100000 in
set_option maxHeartbeats 4000000 in
theorem tb_M_number_20 (X : ev_X) (F : Nat) (d : Nat) (hd : 2 ≤ d + 1) (E : mx_E)  (l1 : Int32) (l2 : Int32) (D : mx_D) (v : Int32 × mx_D) (h : b_M_number_20 F l1 l2 D = some v) : ev X (d + 1) 199 (20, [some (.ref 116), some (.int l1), some (.int l2), none], [], D, E) (qR (some (.int v.1)) v.2 E) := by
  have hq : kq_m 199 = some kq_q199 := rfl
  unfold b_M_number_20 at h
  refine gv_n hq 1 (S' := (21, [some (.ref 116), some (.int l1), some (.int l2), none], [.ref 116], D, E)) rfl ?_
  refine gv_d hq rfl rfl rfl rfl rfl ((t_M_good X d D E _ rfl)) (S' := (24, [some (.ref 116), some (.int l1), some (.int l2), none], [.int (g_M_good D)], D, E)) rfl ?_
  refine gv_b hq rfl h 47 27 rfl rfl rfl (fun h => ?_) (fun h => ?_)
  · exact gv_w (tb_M_number_47 X F d hd E _ _ h) (And.intro rfl trivial)
  · refine gv_n hq 7 (S' := (36, [some (.ref 116), some (.int l1), some (.int l2), none], [.long ((l2).toInt64), .long ((l1).toInt64), .long (((D 116 11)).toInt64)], D, E)) rfl ?_
    refine gv_d hq rfl rfl rfl rfl rfl ((t_M_in X d D E _ _ _ _ rfl)) (S' := (39, [some (.ref 116), some (.int l1), some (.int l2), none], [.int (g_M_in (((D 116 11)).toInt64) ((l1).toInt64) ((l2).toInt64))], D, E)) rfl ?_
    refine gv_b hq rfl h 42 47 rfl rfl rfl (fun h => ?_) (fun h => ?_)
    · refine gv_n hq 2 (S' := (44, [some (.ref 116), some (.int l1), some (.int l2), none], [.int (nI 2), .ref 116], D, E)) rfl ?_
      refine gv_d hq rfl rfl rfl rfl rfl (gv_dd (by omega) (t_M_errs X (d - 1) (by omega) E _ _ _ rfl)) (S' := (47, [some (.ref 116), some (.int l1), some (.int l2), none], [], (g_M_errs (nI 2) D), E)) rfl ?_
      exact gv_w (tb_M_number_47 X F d hd E _ _ h) (And.intro rfl trivial)
    · exact gv_w (tb_M_number_47 X F d hd E _ _ h) (And.intro rfl trivial)
def g_M_number (F : Nat) (a1 : Int32) (a2 : Int32) (D : mx_D) : Option (Int32 × mx_D) := (if (g_M_good D) = 0 then (b_M_number_20 F a1 a2 D) else (if (D 116 10) = (nI 2) then (b_M_number_20 F a1 a2 D) else (b_M_number_20 F a1 a2 (g_M_errs (nI 1) D))))
set_option maxRecDepth 100000 in
set_option maxHeartbeats 4000000 in
theorem t_M_number (X : ev_X) (F : Nat) (d : Nat) (hd : 2 ≤ d + 1) (E : mx_E) (a1 : Int32) (a2 : Int32) (D : mx_D) (v : Int32 × mx_D) (h : g_M_number F a1 a2 D = some v) : ev X (d + 1) 199 (0, [some (.ref 116), some (.int a1), some (.int a2), none], [], D, E) (qR (some (.int v.1)) v.2 E) := by
  have hq : kq_m 199 = some kq_q199 := rfl
  unfold g_M_number at h
  refine gv_n hq 1 (S' := (1, [some (.ref 116), some (.int a1), some (.int a2), none], [.ref 116], D, E)) rfl ?_
  refine gv_d hq rfl rfl rfl rfl rfl ((t_M_good X d D E _ rfl)) (S' := (4, [some (.ref 116), some (.int a1), some (.int a2), none], [.int (g_M_good D)], D, E)) rfl ?_
  refine gv_b hq rfl h 20 7 rfl rfl rfl (fun h => ?_) (fun h => ?_)
  · exact gv_w (tb_M_number_20 X F d hd E _ _ _ _ h) (And.intro rfl (And.intro rfl (And.intro rfl trivial)))
  · refine gv_n hq 3 (S' := (12, [some (.ref 116), some (.int a1), some (.int a2), none], [.int (nI 2), .int (D 116 10)], D, E)) rfl ?_
    refine gv_b hq rfl h 20 15 rfl rfl rfl (fun h => ?_) (fun h => ?_)
    · exact gv_w (tb_M_number_20 X F d hd E _ _ _ _ h) (And.intro rfl (And.intro rfl (And.intro rfl trivial)))
    · refine gv_n hq 2 (S' := (17, [some (.ref 116), some (.int a1), some (.int a2), none], [.int (nI 1), .ref 116], D, E)) rfl ?_
      refine gv_d hq rfl rfl rfl rfl rfl (gv_dd (by omega) (t_M_errs X (d - 1) (by omega) E _ _ _ rfl)) (S' := (20, [some (.ref 116), some (.int a1), some (.int a2), none], [], (g_M_errs (nI 1) D), E)) rfl ?_
      exact gv_w (tb_M_number_20 X F d hd E _ _ _ _ h) (And.intro rfl (And.intro rfl (And.intro rfl trivial)))
def g_M_told (F : Nat) (w1 : Nat) (a2 : Int32) (a3 : Int32) (D : mx_D) : Option (Int32 × mx_D) := (Option.bind (g_M_needs F w1 D) (fun r1 => (Option.bind (g_M_number F a2 a3 r1) (fun r2 => (some (r2.1, r2.2))))))
set_option maxRecDepth 100000 in
set_option maxHeartbeats 4000000 in
theorem t_M_told (X : ev_X) (F : Nat) (d : Nat) (hd : 12 ≤ d + 1) (E : mx_E) (w1 : Nat) (a2 : Int32) (a3 : Int32) (D : mx_D) (v : Int32 × mx_D) (h : g_M_told F w1 a2 a3 D = some v) : ev X (d + 1) 198 (0, [some (.ref 116), some (.ref w1), some (.int a2), some (.int a3)], [], D, E) (qR (some (.int v.1)) v.2 E) := by
  have hq : kq_m 198 = some kq_q198 := rfl
  unfold g_M_told at h
  refine gv_n hq 2 (S' := (2, [some (.ref 116), some (.ref w1), some (.int a2), some (.int a3)], [.ref w1, .ref 116], D, E)) rfl ?_
  obtain ⟨r1, h1, h⟩ := Option.bind_eq_some_iff.mp h
  refine gv_d hq rfl rfl rfl rfl rfl (gv_dd (by omega) (t_M_needs X F (d - 1) (by omega) E _ _ _ h1)) (S' := (5, [some (.ref 116), some (.ref w1), some (.int a2), some (.int a3)], [], r1, E)) rfl ?_
  refine gv_n hq 3 (S' := (8, [some (.ref 116), some (.ref w1), some (.int a2), some (.int a3)], [.int a3, .int a2, .ref 116], r1, E)) rfl ?_
  obtain ⟨r2, h1, h⟩ := Option.bind_eq_some_iff.mp h
  refine gv_d hq rfl rfl rfl rfl rfl (gv_dd (by omega) (t_M_number X F (d - 1) (by omega) E _ _ _ _ h1)) (S' := (11, [some (.ref 116), some (.ref w1), some (.int a2), some (.int a3)], [.int r2.1], r2.2, E)) rfl ?_
  cases h
  exact ev_ret hq rfl rfl ⟨rfl, rfl, rfl⟩
def g_M_readFirst (F : Nat) (D : mx_D) : Option (mx_D) := (Option.bind (g_M_needs F 1000 D) (fun r1 => (Option.bind (g_M_told F 1001 (nI 1) (nI 4) r1) (fun r2 => (Option.bind (g_M_told F 1002 (nI 1) (nI 5) (sD r2.2 122 0 r2.1)) (fun r3 => (Option.bind (g_M_told F 1003 (nI 0) (nI 30) (sD r3.2 122 1 r3.1)) (fun r4 => (Option.bind (g_M_needs F 1004 (sD r4.2 122 2 r4.1)) (fun r5 => (Option.bind (g_M_takes F 1005 r5) (fun r6 => (if r6.1 = 0 then (Option.bind (g_M_needs F 1006 r6.2) (fun r7 => (some r7))) else (some (sD r6.2 122 3 (nI 1))))))))))))))))
set_option maxRecDepth 100000 in
set_option maxHeartbeats 4000000 in
theorem t_M_readFirst (X : ev_X) (F : Nat) (d : Nat) (hd : 13 ≤ d + 1) (E : mx_E) (D : mx_D) (v : mx_D) (h : g_M_readFirst F D = some v) : ev X (d + 1) 193 (0, [some (.ref 116)], [], D, E) (qR none v E) := by
  have hq : kq_m 193 = some kq_q193 := rfl
  unfold g_M_readFirst at h
  refine gv_n hq 2 (S' := (3, [some (.ref 116)], [.ref 1000, .ref 116], D, E)) rfl ?_
  obtain ⟨r1, h1, h⟩ := Option.bind_eq_some_iff.mp h
  refine gv_d hq rfl rfl rfl rfl rfl (gv_dd (by omega) (t_M_needs X F (d - 1) (by omega) E _ _ _ h1)) (S' := (6, [some (.ref 116)], [], r1, E)) rfl ?_
  refine gv_n hq 7 (S' := (16, [some (.ref 116)], [.int (nI 4), .int (nI 1), .ref 1001, .ref 116, .int (nI 0), .ref 122], r1, E)) rfl ?_
  obtain ⟨r2, h1, h⟩ := Option.bind_eq_some_iff.mp h
  refine gv_d hq rfl rfl rfl rfl rfl (gv_dd (by omega) (t_M_told X F (d - 1) (by omega) E _ _ _ _ _ h1)) (S' := (19, [some (.ref 116)], [.int r2.1, .int (nI 0), .ref 122], r2.2, E)) rfl ?_
  refine gv_n hq 8 (S' := (30, [some (.ref 116)], [.int (nI 5), .int (nI 1), .ref 1002, .ref 116, .int (nI 1), .ref 122], (sD r2.2 122 0 r2.1), E)) rfl ?_
  obtain ⟨r3, h1, h⟩ := Option.bind_eq_some_iff.mp h
  refine gv_d hq rfl rfl rfl rfl rfl (gv_dd (by omega) (t_M_told X F (d - 1) (by omega) E _ _ _ _ _ h1)) (S' := (33, [some (.ref 116)], [.int r3.1, .int (nI 1), .ref 122], r3.2, E)) rfl ?_
  refine gv_n hq 8 (S' := (45, [some (.ref 116)], [.int (nI 30), .int (nI 0), .ref 1003, .ref 116, .int (nI 2), .ref 122], (sD r3.2 122 1 r3.1), E)) rfl ?_
  obtain ⟨r4, h1, h⟩ := Option.bind_eq_some_iff.mp h
  refine gv_d hq rfl rfl rfl rfl rfl (gv_dd (by omega) (t_M_told X F (d - 1) (by omega) E _ _ _ _ _ h1)) (S' := (48, [some (.ref 116)], [.int r4.1, .int (nI 2), .ref 122], r4.2, E)) rfl ?_
  refine gv_n hq 3 (S' := (52, [some (.ref 116)], [.ref 1004, .ref 116], (sD r4.2 122 2 r4.1), E)) rfl ?_
  obtain ⟨r5, h1, h⟩ := Option.bind_eq_some_iff.mp h
  refine gv_d hq rfl rfl rfl rfl rfl (gv_dd (by omega) (t_M_needs X F (d - 1) (by omega) E _ _ _ h1)) (S' := (55, [some (.ref 116)], [], r5, E)) rfl ?_
  refine gv_n hq 2 (S' := (58, [some (.ref 116)], [.ref 1005, .ref 116], r5, E)) rfl ?_
  obtain ⟨r6, h1, h⟩ := Option.bind_eq_some_iff.mp h
  refine gv_d hq rfl rfl rfl rfl rfl (gv_dd (by omega) (t_M_takes X F (d - 1) (by omega) E _ _ _ h1)) (S' := (61, [some (.ref 116)], [.int r6.1], r6.2, E)) rfl ?_
  refine gv_b hq rfl h 74 64 rfl rfl rfl (fun h => ?_) (fun h => ?_)
  · refine gv_n hq 2 (S' := (77, [some (.ref 116)], [.ref 1006, .ref 116], r6.2, E)) rfl ?_
    obtain ⟨r7, h1, h⟩ := Option.bind_eq_some_iff.mp h
    refine gv_d hq rfl rfl rfl rfl rfl (gv_dd (by omega) (t_M_needs X F (d - 1) (by omega) E _ _ _ h1)) (S' := (80, [some (.ref 116)], [], r7, E)) rfl ?_
    cases h
    exact ev_ret hq rfl rfl ⟨rfl, rfl, rfl⟩
  · refine gv_n hq 6 (S' := (80, [some (.ref 116)], [], (sD r6.2 122 3 (nI 1)), E)) rfl ?_
    cases h
    exact ev_ret hq rfl rfl ⟨rfl, rfl, rfl⟩
def b_M_readStands_76 (F : Nat) (l1 : Int32) (D : mx_D) : Option (mx_D) := (Option.bind (g_M_number F (nI 0) ((D 122 6) - (nI 1)) D) (fun r2 => (if (g_M_good r2.2) = 0 then (some r2.2) else (rk 106 (((nI 96) + ((nI 2) * r2.1)) + (nI 1)) (some (sD r2.2 122 ((((nI 96) + ((nI 2) * r2.1)) + (nI 1))).toNatClampNeg l1))))))
set_option maxRecDepth 100000 in
set_option maxHeartbeats 4000000 in
theorem tb_M_readStands_76 (X : ev_X) (F : Nat) (d : Nat) (hd : 3 ≤ d + 1) (E : mx_E)  (l1 : Int32) (D : mx_D) (v : mx_D) (h : b_M_readStands_76 F l1 D = some v) : ev X (d + 1) 209 (76, [some (.ref 116), some (.int l1), none], [], D, E) (qR none v E) := by
  have hq : kq_m 209 = some kq_q209 := rfl
  unfold b_M_readStands_76 at h
  refine gv_n hq 8 (S' := (87, [some (.ref 116), some (.int l1), none], [.int ((D 122 6) - (nI 1)), .int (nI 0), .ref 116], D, E)) rfl ?_
  obtain ⟨r2, h1, h⟩ := Option.bind_eq_some_iff.mp h
  refine gv_d hq rfl rfl rfl rfl rfl (gv_dd (by omega) (t_M_number X F (d - 1) (by omega) E _ _ _ _ h1)) (S' := (90, [some (.ref 116), some (.int l1), none], [.int r2.1], r2.2, E)) rfl ?_
  refine gv_n hq 2 (S' := (92, [some (.ref 116), some (.int l1), some (.int r2.1)], [.ref 116], r2.2, E)) rfl ?_
  refine gv_d hq rfl rfl rfl rfl rfl ((t_M_good X d r2.2 E _ rfl)) (S' := (95, [some (.ref 116), some (.int l1), some (.int r2.1)], [.int (g_M_good r2.2)], r2.2, E)) rfl ?_
  refine gv_b hq rfl h 112 98 rfl rfl rfl (fun h => ?_) (fun h => ?_)
  · cases h
    exact ev_ret hq rfl rfl ⟨rfl, rfl, rfl⟩
  · refine gv_n hq 10 (S' := (111, [some (.ref 116), some (.int l1), some (.int r2.1)], [.int l1, .int (((nI 96) + ((nI 2) * r2.1)) + (nI 1)), .ref 122], r2.2, E)) rfl ?_
    refine gv_is hq rfl rfl h 112 rfl (fun h => ?_)
    cases h
    exact ev_ret hq rfl rfl ⟨rfl, rfl, rfl⟩
def g_M_readStands (F : Nat) (D : mx_D) : Option (mx_D) := (Option.bind (g_M_number F (nI 0) ((D 122 4) - (nI 1)) D) (fun r1 => (if (g_M_good r1.2) = 0 then (b_M_readStands_76 F r1.1 r1.2) else (if (r1.2 116 10) = (nI 2) then (if (g_M_in (((r1.2 116 11)).toInt64) (lN 0) ((((r1.2 122 6) - (nI 1))).toInt64)) = 0 then (b_M_readStands_76 F r1.1 r1.2) else (rk 106 (((nI 96) + ((nI 2) * (r1.2 116 11))) + (nI 1)) (if (r1.2 122 ((((nI 96) + ((nI 2) * (r1.2 116 11))) + (nI 1))).toNatClampNeg) = (-1 : Int32) then (b_M_readStands_76 F r1.1 r1.2) else (b_M_readStands_76 F r1.1 (g_M_errs (nI 2) r1.2))))) else (b_M_readStands_76 F r1.1 r1.2)))))
set_option maxRecDepth 100000 in
set_option maxHeartbeats 4000000 in
theorem t_M_readStands (X : ev_X) (F : Nat) (d : Nat) (hd : 3 ≤ d + 1) (E : mx_E) (D : mx_D) (v : mx_D) (h : g_M_readStands F D = some v) : ev X (d + 1) 209 (0, [some (.ref 116), none, none], [], D, E) (qR none v E) := by
  have hq : kq_m 209 = some kq_q209 := rfl
  unfold g_M_readStands at h
  refine gv_n hq 8 (S' := (10, [some (.ref 116), none, none], [.int ((D 122 4) - (nI 1)), .int (nI 0), .ref 116], D, E)) rfl ?_
  obtain ⟨r1, h1, h⟩ := Option.bind_eq_some_iff.mp h
  refine gv_d hq rfl rfl rfl rfl rfl (gv_dd (by omega) (t_M_number X F (d - 1) (by omega) E _ _ _ _ h1)) (S' := (13, [some (.ref 116), none, none], [.int r1.1], r1.2, E)) rfl ?_
  refine gv_n hq 2 (S' := (15, [some (.ref 116), some (.int r1.1), none], [.ref 116], r1.2, E)) rfl ?_
  refine gv_d hq rfl rfl rfl rfl rfl ((t_M_good X d r1.2 E _ rfl)) (S' := (18, [some (.ref 116), some (.int r1.1), none], [.int (g_M_good r1.2)], r1.2, E)) rfl ?_
  refine gv_b hq rfl h 76 21 rfl rfl rfl (fun h => ?_) (fun h => ?_)
  · exact gv_w (tb_M_readStands_76 X F d hd E _ _ _ h) (And.intro rfl (And.intro rfl trivial))
  · refine gv_n hq 3 (S' := (26, [some (.ref 116), some (.int r1.1), none], [.int (nI 2), .int (r1.2 116 10)], r1.2, E)) rfl ?_
    refine gv_b hq rfl h 29 76 rfl rfl rfl (fun h => ?_) (fun h => ?_)
    · refine gv_n hq 11 (S' := (45, [some (.ref 116), some (.int r1.1), none], [.long ((((r1.2 122 6) - (nI 1))).toInt64), .long (lN 0), .long (((r1.2 116 11)).toInt64)], r1.2, E)) rfl ?_
      refine gv_d hq rfl rfl rfl rfl rfl ((t_M_in X d r1.2 E _ _ _ _ rfl)) (S' := (48, [some (.ref 116), some (.int r1.1), none], [.int (g_M_in (((r1.2 116 11)).toInt64) (lN 0) ((((r1.2 122 6) - (nI 1))).toInt64))], r1.2, E)) rfl ?_
      refine gv_b hq rfl h 76 51 rfl rfl rfl (fun h => ?_) (fun h => ?_)
      · exact gv_w (tb_M_readStands_76 X F d hd E _ _ _ h) (And.intro rfl (And.intro rfl trivial))
      · refine gv_n hq 10 (S' := (66, [some (.ref 116), some (.int r1.1), none], [.int (((nI 96) + ((nI 2) * (r1.2 116 11))) + (nI 1)), .ref 122], r1.2, E)) rfl ?_
        refine gv_ia hq rfl rfl rfl h 67 rfl (fun h => ?_)
        refine gv_n hq 1 (S' := (68, [some (.ref 116), some (.int r1.1), none], [.int (-1 : Int32), .int (r1.2 122 ((((nI 96) + ((nI 2) * (r1.2 116 11))) + (nI 1))).toNatClampNeg)], r1.2, E)) rfl ?_
        refine gv_b hq rfl h 76 71 rfl rfl rfl (fun h => ?_) (fun h => ?_)
        · exact gv_w (tb_M_readStands_76 X F d hd E _ _ _ h) (And.intro rfl (And.intro rfl trivial))
        · refine gv_n hq 2 (S' := (73, [some (.ref 116), some (.int r1.1), none], [.int (nI 2), .ref 116], r1.2, E)) rfl ?_
          refine gv_d hq rfl rfl rfl rfl rfl (gv_dd (by omega) (t_M_errs X (d - 1) (by omega) E _ _ _ rfl)) (S' := (76, [some (.ref 116), some (.int r1.1), none], [], (g_M_errs (nI 2) r1.2), E)) rfl ?_
          exact gv_w (tb_M_readStands_76 X F d hd E _ _ _ h) (And.intro rfl (And.intro rfl trivial))
    · exact gv_w (tb_M_readStands_76 X F d hd E _ _ _ h) (And.intro rfl (And.intro rfl trivial))
def g_M_freshOf (D : mx_D) (a1 : Int32) (a2 : Int32) : Option (Int32) := (rk 106 (((nI 40) + ((nI 6) * a1)) + a2) (some (D 122 ((((nI 40) + ((nI 6) * a1)) + a2)).toNatClampNeg)))
set_option maxRecDepth 100000 in
set_option maxHeartbeats 4000000 in
theorem t_M_freshOf (X : ev_X) (d : Nat) (D : mx_D) (E : mx_E) (a1 : Int32) (a2 : Int32) (v : Int32) (h : g_M_freshOf D a1 a2 = some v) : ev X d 206 (0, [some (.ref 116), some (.int a1), some (.int a2)], [], D, E) (qR (some (.int v)) D E) := by
  have hq : kq_m 206 = some kq_q206 := rfl
  unfold g_M_freshOf at h
  refine gv_n hq 9 (S' := (13, [some (.ref 116), some (.int a1), some (.int a2)], [.int (((nI 40) + ((nI 6) * a1)) + a2), .ref 122], D, E)) rfl ?_
  refine gv_ia hq rfl rfl rfl h 14 rfl (fun h => ?_)
  cases h
  exact ev_ret hq rfl rfl ⟨rfl, rfl, rfl⟩
def g_M_isNextWith (D : mx_D) (a1 : Int32) : Option (Int32) := (if (g_M_good D) = 0 then (some (nI 0)) else (if (D 116 10) = (nI 2) then (if (g_M_in (((D 116 11)).toInt64) (lN 0) ((((D 122 4) - (nI 1))).toInt64)) = 0 then (some (nI 0)) else (Option.bind (g_M_freshOf D (D 116 11) a1) (fun r1 => (if r1 = (-1 : Int32) then (some (nI 0)) else (some (nI 1)))))) else (some (nI 0))))
set_option maxRecDepth 100000 in
set_option maxHeartbeats 4000000 in
theorem t_M_isNextWith (X : ev_X) (d : Nat) (hd : 1 ≤ d + 1) (D : mx_D) (E : mx_E) (a1 : Int32) (v : Int32) (h : g_M_isNextWith D a1 = some v) : ev X (d + 1) 205 (0, [some (.ref 116), some (.int a1)], [], D, E) (qR (some (.int v)) D E) := by
  have hq : kq_m 205 = some kq_q205 := rfl
  unfold g_M_isNextWith at h
  refine gv_n hq 1 (S' := (1, [some (.ref 116), some (.int a1)], [.ref 116], D, E)) rfl ?_
  refine gv_d hq rfl rfl rfl rfl rfl ((t_M_good X d D E _ rfl)) (S' := (4, [some (.ref 116), some (.int a1)], [.int (g_M_good D)], D, E)) rfl ?_
  refine gv_b hq rfl h 53 7 rfl rfl rfl (fun h => ?_) (fun h => ?_)
  · refine gv_n hq 1 (S' := (54, [some (.ref 116), some (.int a1)], [.int (nI 0)], D, E)) rfl ?_
    cases h
    exact ev_ret hq rfl rfl ⟨rfl, rfl, rfl⟩
  · refine gv_n hq 3 (S' := (12, [some (.ref 116), some (.int a1)], [.int (nI 2), .int (D 116 10)], D, E)) rfl ?_
    refine gv_b hq rfl h 15 53 rfl rfl rfl (fun h => ?_) (fun h => ?_)
    · refine gv_n hq 11 (S' := (30, [some (.ref 116), some (.int a1)], [.long ((((D 122 4) - (nI 1))).toInt64), .long (lN 0), .long (((D 116 11)).toInt64)], D, E)) rfl ?_
      refine gv_d hq rfl rfl rfl rfl rfl ((t_M_in X d D E _ _ _ _ rfl)) (S' := (33, [some (.ref 116), some (.int a1)], [.int (g_M_in (((D 116 11)).toInt64) (lN 0) ((((D 122 4) - (nI 1))).toInt64))], D, E)) rfl ?_
      refine gv_b hq rfl h 53 36 rfl rfl rfl (fun h => ?_) (fun h => ?_)
      · refine gv_n hq 1 (S' := (54, [some (.ref 116), some (.int a1)], [.int (nI 0)], D, E)) rfl ?_
        cases h
        exact ev_ret hq rfl rfl ⟨rfl, rfl, rfl⟩
      · refine gv_n hq 4 (S' := (42, [some (.ref 116), some (.int a1)], [.int a1, .int (D 116 11), .ref 116], D, E)) rfl ?_
        obtain ⟨r1, h1, h⟩ := Option.bind_eq_some_iff.mp h
        refine gv_d hq rfl rfl rfl rfl rfl ((t_M_freshOf X d D E _ _ _ h1)) (S' := (45, [some (.ref 116), some (.int a1)], [.int r1], D, E)) rfl ?_
        refine gv_n hq 1 (S' := (46, [some (.ref 116), some (.int a1)], [.int (-1 : Int32), .int r1], D, E)) rfl ?_
        refine gv_b hq rfl h 53 49 rfl rfl rfl (fun h => ?_) (fun h => ?_)
        · refine gv_n hq 1 (S' := (54, [some (.ref 116), some (.int a1)], [.int (nI 0)], D, E)) rfl ?_
          cases h
          exact ev_ret hq rfl rfl ⟨rfl, rfl, rfl⟩
        · refine gv_n hq 2 (S' := (54, [some (.ref 116), some (.int a1)], [.int (nI 1)], D, E)) rfl ?_
          cases h
          exact ev_ret hq rfl rfl ⟨rfl, rfl, rfl⟩
    · refine gv_n hq 1 (S' := (54, [some (.ref 116), some (.int a1)], [.int (nI 0)], D, E)) rfl ?_
      cases h
      exact ev_ret hq rfl rfl ⟨rfl, rfl, rfl⟩
def b_M_isNextTaken_19 (F : Nat) (D : mx_D) (k19 : Int32 → Int32 → Int32 → Option (Int32)) (l1 : Int32) (l2 : Int32) (l3 : Int32) : Option (Int32) := (if (D 122 4) ≤ l3 then (some (nI 0)) else (Option.bind (g_M_freshOf D l3 l1) (fun r1 => (if r1 = (D 116 11) then (if l2 = (-1 : Int32) then (some (nI 1)) else (Option.bind (g_M_freshOf D l3 (nI 3)) (fun r2 => (if r2 = l2 then (some (nI 1)) else (k19 l1 l2 (l3 + (nI 1))))))) else (k19 l1 l2 (l3 + (nI 1)))))))
set_option maxRecDepth 100000 in
set_option maxHeartbeats 4000000 in
theorem tb_M_isNextTaken_19 (X : ev_X) (F : Nat) (d : Nat) (hd : 1 ≤ d + 1) (D : mx_D) (E : mx_E) (k19 : Int32 → Int32 → Int32 → Option (Int32)) (K19 : ∀ (l1 : Int32) (l2 : Int32) (l3 : Int32) (v : Int32), k19 l1 l2 l3 = some v → ev X (d + 1) 207 (19, [some (.ref 116), some (.int l1), some (.int l2), some (.int l3)], [], D, E) (qR (some (.int v)) D E)) (l1 : Int32) (l2 : Int32) (l3 : Int32) (v : Int32) (h : b_M_isNextTaken_19 F D k19 l1 l2 l3 = some v) : ev X (d + 1) 207 (19, [some (.ref 116), some (.int l1), some (.int l2), some (.int l3)], [], D, E) (qR (some (.int v)) D E) := by
  have hq : kq_m 207 = some kq_q207 := rfl
  unfold b_M_isNextTaken_19 at h
  refine gv_n hq 5 (S' := (26, [some (.ref 116), some (.int l1), some (.int l2), some (.int l3)], [.int (D 122 4), .int l3], D, E)) rfl ?_
  refine gv_b hq rfl h 65 29 rfl rfl rfl (fun h => ?_) (fun h => ?_)
  · refine gv_n hq 1 (S' := (66, [some (.ref 116), some (.int l1), some (.int l2), some (.int l3)], [.int (nI 0)], D, E)) rfl ?_
    cases h
    exact ev_ret hq rfl rfl ⟨rfl, rfl, rfl⟩
  · refine gv_n hq 3 (S' := (32, [some (.ref 116), some (.int l1), some (.int l2), some (.int l3)], [.int l1, .int l3, .ref 116], D, E)) rfl ?_
    obtain ⟨r1, h1, h⟩ := Option.bind_eq_some_iff.mp h
    refine gv_d hq rfl rfl rfl rfl rfl ((t_M_freshOf X d D E _ _ _ h1)) (S' := (35, [some (.ref 116), some (.int l1), some (.int l2), some (.int l3)], [.int r1], D, E)) rfl ?_
    refine gv_n hq 2 (S' := (39, [some (.ref 116), some (.int l1), some (.int l2), some (.int l3)], [.int (D 116 11), .int r1], D, E)) rfl ?_
    refine gv_b hq rfl h 42 59 rfl rfl rfl (fun h => ?_) (fun h => ?_)
    · refine gv_n hq 2 (S' := (44, [some (.ref 116), some (.int l1), some (.int l2), some (.int l3)], [.int (-1 : Int32), .int l2], D, E)) rfl ?_
      refine gv_b hq rfl h 57 47 rfl rfl rfl (fun h => ?_) (fun h => ?_)
      · refine gv_n hq 1 (S' := (58, [some (.ref 116), some (.int l1), some (.int l2), some (.int l3)], [.int (nI 1)], D, E)) rfl ?_
        cases h
        exact ev_ret hq rfl rfl ⟨rfl, rfl, rfl⟩
      · refine gv_n hq 3 (S' := (50, [some (.ref 116), some (.int l1), some (.int l2), some (.int l3)], [.int (nI 3), .int l3, .ref 116], D, E)) rfl ?_
        obtain ⟨r2, h1, h⟩ := Option.bind_eq_some_iff.mp h
        refine gv_d hq rfl rfl rfl rfl rfl ((t_M_freshOf X d D E _ _ _ h1)) (S' := (53, [some (.ref 116), some (.int l1), some (.int l2), some (.int l3)], [.int r2], D, E)) rfl ?_
        refine gv_n hq 1 (S' := (54, [some (.ref 116), some (.int l1), some (.int l2), some (.int l3)], [.int l2, .int r2], D, E)) rfl ?_
        refine gv_b hq rfl h 57 59 rfl rfl rfl (fun h => ?_) (fun h => ?_)
        · refine gv_n hq 1 (S' := (58, [some (.ref 116), some (.int l1), some (.int l2), some (.int l3)], [.int (nI 1)], D, E)) rfl ?_
          cases h
          exact ev_ret hq rfl rfl ⟨rfl, rfl, rfl⟩
        · refine gv_n hq 2 (S' := (19, [some (.ref 116), some (.int l1), some (.int l2), some (.int (l3 + (nI 1)))], [], D, E)) rfl ?_
          exact gv_w (K19 _ _ _ _ h) (And.intro rfl (And.intro rfl (And.intro rfl (And.intro rfl trivial))))
    · refine gv_n hq 2 (S' := (19, [some (.ref 116), some (.int l1), some (.int l2), some (.int (l3 + (nI 1)))], [], D, E)) rfl ?_
      exact gv_w (K19 _ _ _ _ h) (And.intro rfl (And.intro rfl (And.intro rfl (And.intro rfl trivial))))
def g_M_isNextTaken_19 (F : Nat) (D : mx_D) : Nat → Int32 → Int32 → Int32 → Option (Int32) := it (fun k19 => b_M_isNextTaken_19 F D k19) (fun _ _ _ => none)
set_option maxRecDepth 100000 in
set_option maxHeartbeats 4000000 in
theorem t_M_isNextTaken_19 (X : ev_X) (F : Nat) (d : Nat) (hd : 1 ≤ d + 1) (D : mx_D) (E : mx_E)  : ∀ (n : Nat) (l1 : Int32) (l2 : Int32) (l3 : Int32) (v : Int32), g_M_isNextTaken_19 F D n l1 l2 l3 = some v → ev X (d + 1) 207 (19, [some (.ref 116), some (.int l1), some (.int l2), some (.int l3)], [], D, E) (qR (some (.int v)) D E) := by
  intro n
  induction n with
  | zero => intro l1 l2 l3 v h; cases h
  | succ n ih => intro l1 l2 l3 v h; exact tb_M_isNextTaken_19 X F d hd D E (g_M_isNextTaken_19 F D n) ih l1 l2 l3 v h
def g_M_isNextTaken (F : Nat) (D : mx_D) (a1 : Int32) (a2 : Int32) : Option (Int32) := (if (g_M_good D) = 0 then (some (nI 0)) else (if (D 116 10) = (nI 2) then (g_M_isNextTaken_19 F D F a1 a2 (nI 0)) else (some (nI 0))))
set_option maxRecDepth 100000 in
set_option maxHeartbeats 4000000 in
theorem t_M_isNextTaken (X : ev_X) (F : Nat) (d : Nat) (hd : 1 ≤ d + 1) (D : mx_D) (E : mx_E) (a1 : Int32) (a2 : Int32) (v : Int32) (h : g_M_isNextTaken F D a1 a2 = some v) : ev X (d + 1) 207 (0, [some (.ref 116), some (.int a1), some (.int a2), none], [], D, E) (qR (some (.int v)) D E) := by
  have hq : kq_m 207 = some kq_q207 := rfl
  unfold g_M_isNextTaken at h
  refine gv_n hq 1 (S' := (1, [some (.ref 116), some (.int a1), some (.int a2), none], [.ref 116], D, E)) rfl ?_
  refine gv_d hq rfl rfl rfl rfl rfl ((t_M_good X d D E _ rfl)) (S' := (4, [some (.ref 116), some (.int a1), some (.int a2), none], [.int (g_M_good D)], D, E)) rfl ?_
  refine gv_b hq rfl h 15 7 rfl rfl rfl (fun h => ?_) (fun h => ?_)
  · refine gv_n hq 1 (S' := (16, [some (.ref 116), some (.int a1), some (.int a2), none], [.int (nI 0)], D, E)) rfl ?_
    cases h
    exact ev_ret hq rfl rfl ⟨rfl, rfl, rfl⟩
  · refine gv_n hq 3 (S' := (12, [some (.ref 116), some (.int a1), some (.int a2), none], [.int (nI 2), .int (D 116 10)], D, E)) rfl ?_
    refine gv_b hq rfl h 17 15 rfl rfl rfl (fun h => ?_) (fun h => ?_)
    · refine gv_n hq 2 (S' := (19, [some (.ref 116), some (.int a1), some (.int a2), some (.int (nI 0))], [], D, E)) rfl ?_
      exact gv_w (t_M_isNextTaken_19 X F d hd D E F _ _ _ _ h) (And.intro rfl (And.intro rfl (And.intro rfl (And.intro rfl trivial))))
    · refine gv_n hq 1 (S' := (16, [some (.ref 116), some (.int a1), some (.int a2), none], [.int (nI 0)], D, E)) rfl ?_
      cases h
      exact ev_ret hq rfl rfl ⟨rfl, rfl, rfl⟩
def b_M_readWears_41 (F : Nat) (l1 : Int32) (D : mx_D) : Option (mx_D) := (Option.bind (g_M_number F (nI 0) ((D 122 5) - (nI 1)) D) (fun r4 => (if (g_M_good r4.2) = 0 then (some r4.2) else (rk 106 (((nI 40) + ((nI 6) * l1)) + (nI 5)) (some (sD r4.2 122 ((((nI 40) + ((nI 6) * l1)) + (nI 5))).toNatClampNeg r4.1))))))
set_option maxRecDepth 100000 in
set_option maxHeartbeats 4000000 in
theorem tb_M_readWears_41 (X : ev_X) (F : Nat) (d : Nat) (hd : 3 ≤ d + 1) (E : mx_E)  (l1 : Int32) (D : mx_D) (v : mx_D) (h : b_M_readWears_41 F l1 D = some v) : ev X (d + 1) 208 (41, [some (.ref 116), some (.int l1), none], [], D, E) (qR none v E) := by
  have hq : kq_m 208 = some kq_q208 := rfl
  unfold b_M_readWears_41 at h
  refine gv_n hq 8 (S' := (51, [some (.ref 116), some (.int l1), none], [.int ((D 122 5) - (nI 1)), .int (nI 0), .ref 116], D, E)) rfl ?_
  obtain ⟨r4, h1, h⟩ := Option.bind_eq_some_iff.mp h
  refine gv_d hq rfl rfl rfl rfl rfl (gv_dd (by omega) (t_M_number X F (d - 1) (by omega) E _ _ _ _ h1)) (S' := (54, [some (.ref 116), some (.int l1), none], [.int r4.1], r4.2, E)) rfl ?_
  refine gv_n hq 2 (S' := (56, [some (.ref 116), some (.int l1), some (.int r4.1)], [.ref 116], r4.2, E)) rfl ?_
  refine gv_d hq rfl rfl rfl rfl rfl ((t_M_good X d r4.2 E _ rfl)) (S' := (59, [some (.ref 116), some (.int l1), some (.int r4.1)], [.int (g_M_good r4.2)], r4.2, E)) rfl ?_
  refine gv_b hq rfl h 77 62 rfl rfl rfl (fun h => ?_) (fun h => ?_)
  · cases h
    exact ev_ret hq rfl rfl ⟨rfl, rfl, rfl⟩
  · refine gv_n hq 10 (S' := (76, [some (.ref 116), some (.int l1), some (.int r4.1)], [.int r4.1, .int (((nI 40) + ((nI 6) * l1)) + (nI 5)), .ref 122], r4.2, E)) rfl ?_
    refine gv_is hq rfl rfl h 77 rfl (fun h => ?_)
    cases h
    exact ev_ret hq rfl rfl ⟨rfl, rfl, rfl⟩
def b_M_readWears_13 (F : Nat) (D : mx_D) : Option (mx_D) := (Option.bind (g_M_number F (nI 0) ((D 122 4) - (nI 1)) D) (fun r2 => (Option.bind (g_M_isNextTaken F r2.2 (nI 5) (-1 : Int32)) (fun r3 => (if r3 = 0 then (b_M_readWears_41 F r2.1 r2.2) else (b_M_readWears_41 F r2.1 (g_M_errs (nI 2) r2.2)))))))
set_option maxRecDepth 100000 in
set_option maxHeartbeats 4000000 in
theorem tb_M_readWears_13 (X : ev_X) (F : Nat) (d : Nat) (hd : 3 ≤ d + 1) (E : mx_E)  (D : mx_D) (v : mx_D) (h : b_M_readWears_13 F D = some v) : ev X (d + 1) 208 (13, [some (.ref 116), none, none], [], D, E) (qR none v E) := by
  have hq : kq_m 208 = some kq_q208 := rfl
  unfold b_M_readWears_13 at h
  refine gv_n hq 8 (S' := (23, [some (.ref 116), none, none], [.int ((D 122 4) - (nI 1)), .int (nI 0), .ref 116], D, E)) rfl ?_
  obtain ⟨r2, h1, h⟩ := Option.bind_eq_some_iff.mp h
  refine gv_d hq rfl rfl rfl rfl rfl (gv_dd (by omega) (t_M_number X F (d - 1) (by omega) E _ _ _ _ h1)) (S' := (26, [some (.ref 116), none, none], [.int r2.1], r2.2, E)) rfl ?_
  refine gv_n hq 4 (S' := (30, [some (.ref 116), some (.int r2.1), none], [.int (-1 : Int32), .int (nI 5), .ref 116], r2.2, E)) rfl ?_
  obtain ⟨r3, h1, h⟩ := Option.bind_eq_some_iff.mp h
  refine gv_d hq rfl rfl rfl rfl rfl (gv_dd (by omega) (t_M_isNextTaken X F (d - 1) (by omega) r2.2 E _ _ _ h1)) (S' := (33, [some (.ref 116), some (.int r2.1), none], [.int r3], r2.2, E)) rfl ?_
  refine gv_b hq rfl h 41 36 rfl rfl rfl (fun h => ?_) (fun h => ?_)
  · exact gv_w (tb_M_readWears_41 X F d hd E _ _ _ h) (And.intro rfl (And.intro rfl trivial))
  · refine gv_n hq 2 (S' := (38, [some (.ref 116), some (.int r2.1), none], [.int (nI 2), .ref 116], r2.2, E)) rfl ?_
    refine gv_d hq rfl rfl rfl rfl rfl (gv_dd (by omega) (t_M_errs X (d - 1) (by omega) E _ _ _ rfl)) (S' := (41, [some (.ref 116), some (.int r2.1), none], [], (g_M_errs (nI 2) r2.2), E)) rfl ?_
    exact gv_w (tb_M_readWears_41 X F d hd E _ _ _ h) (And.intro rfl (And.intro rfl trivial))
def g_M_readWears (F : Nat) (D : mx_D) : Option (mx_D) := (Option.bind (g_M_isNextWith D (nI 5)) (fun r1 => (if r1 = 0 then (b_M_readWears_13 F D) else (b_M_readWears_13 F (g_M_errs (nI 2) D)))))
set_option maxRecDepth 100000 in
set_option maxHeartbeats 4000000 in
theorem t_M_readWears (X : ev_X) (F : Nat) (d : Nat) (hd : 3 ≤ d + 1) (E : mx_E) (D : mx_D) (v : mx_D) (h : g_M_readWears F D = some v) : ev X (d + 1) 208 (0, [some (.ref 116), none, none], [], D, E) (qR none v E) := by
  have hq : kq_m 208 = some kq_q208 := rfl
  unfold g_M_readWears at h
  refine gv_n hq 2 (S' := (2, [some (.ref 116), none, none], [.int (nI 5), .ref 116], D, E)) rfl ?_
  obtain ⟨r1, h1, h⟩ := Option.bind_eq_some_iff.mp h
  refine gv_d hq rfl rfl rfl rfl rfl (gv_dd (by omega) (t_M_isNextWith X (d - 1) (by omega) D E _ _ h1)) (S' := (5, [some (.ref 116), none, none], [.int r1], D, E)) rfl ?_
  refine gv_b hq rfl h 13 8 rfl rfl rfl (fun h => ?_) (fun h => ?_)
  · exact gv_w (tb_M_readWears_13 X F d hd E _ _ h) (And.intro rfl trivial)
  · refine gv_n hq 2 (S' := (10, [some (.ref 116), none, none], [.int (nI 2), .ref 116], D, E)) rfl ?_
    refine gv_d hq rfl rfl rfl rfl rfl (gv_dd (by omega) (t_M_errs X (d - 1) (by omega) E _ _ _ rfl)) (S' := (13, [some (.ref 116), none, none], [], (g_M_errs (nI 2) D), E)) rfl ?_
    exact gv_w (tb_M_readWears_13 X F d hd E _ _ h) (And.intro rfl trivial)
def b_M_readSits_55 (F : Nat) (l1 : Int32) (l2 : Int32) (D : mx_D) : Option (mx_D) := (Option.bind (g_M_number F (nI 0) ((D 122 1) - (nI 1)) D) (fun r5 => (if (g_M_good r5.2) = 0 then (some r5.2) else (rk 106 (((nI 40) + ((nI 6) * l1)) + (nI 3)) (rk 106 (((nI 40) + ((nI 6) * l1)) + (nI 4)) (some (sD (sD r5.2 122 ((((nI 40) + ((nI 6) * l1)) + (nI 3))).toNatClampNeg l2) 122 ((((nI 40) + ((nI 6) * l1)) + (nI 4))).toNatClampNeg r5.1)))))))
set_option maxRecDepth 100000 in
set_option maxHeartbeats 4000000 in
theorem tb_M_readSits_55 (X : ev_X) (F : Nat) (d : Nat) (hd : 3 ≤ d + 1) (E : mx_E)  (l1 : Int32) (l2 : Int32) (D : mx_D) (v : mx_D) (h : b_M_readSits_55 F l1 l2 D = some v) : ev X (d + 1) 204 (55, [some (.ref 116), some (.int l1), some (.int l2), none], [], D, E) (qR none v E) := by
  have hq : kq_m 204 = some kq_q204 := rfl
  unfold b_M_readSits_55 at h
  refine gv_n hq 8 (S' := (65, [some (.ref 116), some (.int l1), some (.int l2), none], [.int ((D 122 1) - (nI 1)), .int (nI 0), .ref 116], D, E)) rfl ?_
  obtain ⟨r5, h1, h⟩ := Option.bind_eq_some_iff.mp h
  refine gv_d hq rfl rfl rfl rfl rfl (gv_dd (by omega) (t_M_number X F (d - 1) (by omega) E _ _ _ _ h1)) (S' := (68, [some (.ref 116), some (.int l1), some (.int l2), none], [.int r5.1], r5.2, E)) rfl ?_
  refine gv_n hq 2 (S' := (70, [some (.ref 116), some (.int l1), some (.int l2), some (.int r5.1)], [.ref 116], r5.2, E)) rfl ?_
  refine gv_d hq rfl rfl rfl rfl rfl ((t_M_good X d r5.2 E _ rfl)) (S' := (73, [some (.ref 116), some (.int l1), some (.int l2), some (.int r5.1)], [.int (g_M_good r5.2)], r5.2, E)) rfl ?_
  refine gv_b hq rfl h 76 77 rfl rfl rfl (fun h => ?_) (fun h => ?_)
  · cases h
    exact ev_ret hq rfl rfl ⟨rfl, rfl, rfl⟩
  · refine gv_n hq 10 (S' := (91, [some (.ref 116), some (.int l1), some (.int l2), some (.int r5.1)], [.int l2, .int (((nI 40) + ((nI 6) * l1)) + (nI 3)), .ref 122], r5.2, E)) rfl ?_
    refine gv_is hq rfl rfl h 92 rfl (fun h => ?_)
    refine gv_n hq 10 (S' := (106, [some (.ref 116), some (.int l1), some (.int l2), some (.int r5.1)], [.int r5.1, .int (((nI 40) + ((nI 6) * l1)) + (nI 4)), .ref 122], (sD r5.2 122 ((((nI 40) + ((nI 6) * l1)) + (nI 3))).toNatClampNeg l2), E)) rfl ?_
    refine gv_is hq rfl rfl h 107 rfl (fun h => ?_)
    cases h
    exact ev_ret hq rfl rfl ⟨rfl, rfl, rfl⟩
def b_M_readSits_13 (F : Nat) (D : mx_D) : Option (mx_D) := (Option.bind (g_M_number F (nI 0) ((D 122 4) - (nI 1)) D) (fun r2 => (Option.bind (g_M_number F (nI 0) ((r2.2 122 0) - (nI 1)) r2.2) (fun r3 => (Option.bind (g_M_isNextTaken F r3.2 (nI 4) r3.1) (fun r4 => (if r4 = 0 then (b_M_readSits_55 F r2.1 r3.1 r3.2) else (b_M_readSits_55 F r2.1 r3.1 (g_M_errs (nI 2) r3.2)))))))))
set_option maxRecDepth 100000 in
set_option maxHeartbeats 4000000 in
theorem tb_M_readSits_13 (X : ev_X) (F : Nat) (d : Nat) (hd : 3 ≤ d + 1) (E : mx_E)  (D : mx_D) (v : mx_D) (h : b_M_readSits_13 F D = some v) : ev X (d + 1) 204 (13, [some (.ref 116), none, none, none], [], D, E) (qR none v E) := by
  have hq : kq_m 204 = some kq_q204 := rfl
  unfold b_M_readSits_13 at h
  refine gv_n hq 8 (S' := (23, [some (.ref 116), none, none, none], [.int ((D 122 4) - (nI 1)), .int (nI 0), .ref 116], D, E)) rfl ?_
  obtain ⟨r2, h1, h⟩ := Option.bind_eq_some_iff.mp h
  refine gv_d hq rfl rfl rfl rfl rfl (gv_dd (by omega) (t_M_number X F (d - 1) (by omega) E _ _ _ _ h1)) (S' := (26, [some (.ref 116), none, none, none], [.int r2.1], r2.2, E)) rfl ?_
  refine gv_n hq 9 (S' := (37, [some (.ref 116), some (.int r2.1), none, none], [.int ((r2.2 122 0) - (nI 1)), .int (nI 0), .ref 116], r2.2, E)) rfl ?_
  obtain ⟨r3, h1, h⟩ := Option.bind_eq_some_iff.mp h
  refine gv_d hq rfl rfl rfl rfl rfl (gv_dd (by omega) (t_M_number X F (d - 1) (by omega) E _ _ _ _ h1)) (S' := (40, [some (.ref 116), some (.int r2.1), none, none], [.int r3.1], r3.2, E)) rfl ?_
  refine gv_n hq 4 (S' := (44, [some (.ref 116), some (.int r2.1), some (.int r3.1), none], [.int r3.1, .int (nI 4), .ref 116], r3.2, E)) rfl ?_
  obtain ⟨r4, h1, h⟩ := Option.bind_eq_some_iff.mp h
  refine gv_d hq rfl rfl rfl rfl rfl (gv_dd (by omega) (t_M_isNextTaken X F (d - 1) (by omega) r3.2 E _ _ _ h1)) (S' := (47, [some (.ref 116), some (.int r2.1), some (.int r3.1), none], [.int r4], r3.2, E)) rfl ?_
  refine gv_b hq rfl h 55 50 rfl rfl rfl (fun h => ?_) (fun h => ?_)
  · exact gv_w (tb_M_readSits_55 X F d hd E _ _ _ _ h) (And.intro rfl (And.intro rfl (And.intro rfl trivial)))
  · refine gv_n hq 2 (S' := (52, [some (.ref 116), some (.int r2.1), some (.int r3.1), none], [.int (nI 2), .ref 116], r3.2, E)) rfl ?_
    refine gv_d hq rfl rfl rfl rfl rfl (gv_dd (by omega) (t_M_errs X (d - 1) (by omega) E _ _ _ rfl)) (S' := (55, [some (.ref 116), some (.int r2.1), some (.int r3.1), none], [], (g_M_errs (nI 2) r3.2), E)) rfl ?_
    exact gv_w (tb_M_readSits_55 X F d hd E _ _ _ _ h) (And.intro rfl (And.intro rfl (And.intro rfl trivial)))
def g_M_readSits (F : Nat) (D : mx_D) : Option (mx_D) := (Option.bind (g_M_isNextWith D (nI 3)) (fun r1 => (if r1 = 0 then (b_M_readSits_13 F D) else (b_M_readSits_13 F (g_M_errs (nI 2) D)))))
set_option maxRecDepth 100000 in
set_option maxHeartbeats 4000000 in
theorem t_M_readSits (X : ev_X) (F : Nat) (d : Nat) (hd : 3 ≤ d + 1) (E : mx_E) (D : mx_D) (v : mx_D) (h : g_M_readSits F D = some v) : ev X (d + 1) 204 (0, [some (.ref 116), none, none, none], [], D, E) (qR none v E) := by
  have hq : kq_m 204 = some kq_q204 := rfl
  unfold g_M_readSits at h
  refine gv_n hq 2 (S' := (2, [some (.ref 116), none, none, none], [.int (nI 3), .ref 116], D, E)) rfl ?_
  obtain ⟨r1, h1, h⟩ := Option.bind_eq_some_iff.mp h
  refine gv_d hq rfl rfl rfl rfl rfl (gv_dd (by omega) (t_M_isNextWith X (d - 1) (by omega) D E _ _ h1)) (S' := (5, [some (.ref 116), none, none, none], [.int r1], D, E)) rfl ?_
  refine gv_b hq rfl h 13 8 rfl rfl rfl (fun h => ?_) (fun h => ?_)
  · exact gv_w (tb_M_readSits_13 X F d hd E _ _ h) (And.intro rfl trivial)
  · refine gv_n hq 2 (S' := (10, [some (.ref 116), none, none, none], [.int (nI 2), .ref 116], D, E)) rfl ?_
    refine gv_d hq rfl rfl rfl rfl rfl (gv_dd (by omega) (t_M_errs X (d - 1) (by omega) E _ _ _ rfl)) (S' := (13, [some (.ref 116), none, none, none], [], (g_M_errs (nI 2) D), E)) rfl ?_
    exact gv_w (tb_M_readSits_13 X F d hd E _ _ h) (And.intro rfl trivial)
def g_M_readPerson (F : Nat) (D : mx_D) : Option (mx_D) := (Option.bind (g_M_told F 1013 (nI 100) (nI 220) D) (fun r1 => (rk 106 (((nI 40) + ((nI 6) * (D 122 4))) + (nI 0)) (Option.bind (g_M_told F 1014 (nI 0) (nI 9) (sD r1.2 122 ((((nI 40) + ((nI 6) * (D 122 4))) + (nI 0))).toNatClampNeg r1.1)) (fun r2 => (rk 106 (((nI 40) + ((nI 6) * (D 122 4))) + (nI 1)) (Option.bind (g_M_told F 1015 (nI 0) (nI 9) (sD r2.2 122 ((((nI 40) + ((nI 6) * (D 122 4))) + (nI 1))).toNatClampNeg r2.1)) (fun r3 => (rk 106 (((nI 40) + ((nI 6) * (D 122 4))) + (nI 2)) (rk 106 (((nI 40) + ((nI 6) * (D 122 4))) + (nI 3)) (rk 106 (((nI 40) + ((nI 6) * (D 122 4))) + (nI 4)) (rk 106 (((nI 40) + ((nI 6) * (D 122 4))) + (nI 5)) (some (sD (sD (sD (sD (sD r3.2 122 ((((nI 40) + ((nI 6) * (D 122 4))) + (nI 2))).toNatClampNeg r3.1) 122 ((((nI 40) + ((nI 6) * (D 122 4))) + (nI 3))).toNatClampNeg (-1 : Int32)) 122 ((((nI 40) + ((nI 6) * (D 122 4))) + (nI 4))).toNatClampNeg (-1 : Int32)) 122 ((((nI 40) + ((nI 6) * (D 122 4))) + (nI 5))).toNatClampNeg (-1 : Int32)) 122 4 (((sD (sD (sD (sD r3.2 122 ((((nI 40) + ((nI 6) * (D 122 4))) + (nI 2))).toNatClampNeg r3.1) 122 ((((nI 40) + ((nI 6) * (D 122 4))) + (nI 3))).toNatClampNeg (-1 : Int32)) 122 ((((nI 40) + ((nI 6) * (D 122 4))) + (nI 4))).toNatClampNeg (-1 : Int32)) 122 ((((nI 40) + ((nI 6) * (D 122 4))) + (nI 5))).toNatClampNeg (-1 : Int32)) 122 4) + (nI 1))))))))))))))))
set_option maxRecDepth 100000 in
set_option maxHeartbeats 4000000 in
theorem t_M_readPerson (X : ev_X) (F : Nat) (d : Nat) (hd : 13 ≤ d + 1) (E : mx_E) (D : mx_D) (v : mx_D) (h : g_M_readPerson F D = some v) : ev X (d + 1) 203 (0, [some (.ref 116), none], [], D, E) (qR none v E) := by
  have hq : kq_m 203 = some kq_q203 := rfl
  unfold g_M_readPerson at h
  refine gv_n hq 18 (S' := (28, [some (.ref 116), some (.int ((nI 40) + ((nI 6) * (D 122 4))))], [.int (nI 220), .int (nI 100), .ref 1013, .ref 116, .int (((nI 40) + ((nI 6) * (D 122 4))) + (nI 0)), .ref 122], D, E)) rfl ?_
  obtain ⟨r1, h1, h⟩ := Option.bind_eq_some_iff.mp h
  refine gv_d hq rfl rfl rfl rfl rfl (gv_dd (by omega) (t_M_told X F (d - 1) (by omega) E _ _ _ _ _ h1)) (S' := (31, [some (.ref 116), some (.int ((nI 40) + ((nI 6) * (D 122 4))))], [.int r1.1, .int (((nI 40) + ((nI 6) * (D 122 4))) + (nI 0)), .ref 122], r1.2, E)) rfl ?_
  refine gv_is hq rfl rfl h 32 rfl (fun h => ?_)
  refine gv_n hq 9 (S' := (45, [some (.ref 116), some (.int ((nI 40) + ((nI 6) * (D 122 4))))], [.int (nI 9), .int (nI 0), .ref 1014, .ref 116, .int (((nI 40) + ((nI 6) * (D 122 4))) + (nI 1)), .ref 122], (sD r1.2 122 ((((nI 40) + ((nI 6) * (D 122 4))) + (nI 0))).toNatClampNeg r1.1), E)) rfl ?_
  obtain ⟨r2, h1, h⟩ := Option.bind_eq_some_iff.mp h
  refine gv_d hq rfl rfl rfl rfl rfl (gv_dd (by omega) (t_M_told X F (d - 1) (by omega) E _ _ _ _ _ h1)) (S' := (48, [some (.ref 116), some (.int ((nI 40) + ((nI 6) * (D 122 4))))], [.int r2.1, .int (((nI 40) + ((nI 6) * (D 122 4))) + (nI 1)), .ref 122], r2.2, E)) rfl ?_
  refine gv_is hq rfl rfl h 49 rfl (fun h => ?_)
  refine gv_n hq 9 (S' := (62, [some (.ref 116), some (.int ((nI 40) + ((nI 6) * (D 122 4))))], [.int (nI 9), .int (nI 0), .ref 1015, .ref 116, .int (((nI 40) + ((nI 6) * (D 122 4))) + (nI 2)), .ref 122], (sD r2.2 122 ((((nI 40) + ((nI 6) * (D 122 4))) + (nI 1))).toNatClampNeg r2.1), E)) rfl ?_
  obtain ⟨r3, h1, h⟩ := Option.bind_eq_some_iff.mp h
  refine gv_d hq rfl rfl rfl rfl rfl (gv_dd (by omega) (t_M_told X F (d - 1) (by omega) E _ _ _ _ _ h1)) (S' := (65, [some (.ref 116), some (.int ((nI 40) + ((nI 6) * (D 122 4))))], [.int r3.1, .int (((nI 40) + ((nI 6) * (D 122 4))) + (nI 2)), .ref 122], r3.2, E)) rfl ?_
  refine gv_is hq rfl rfl h 66 rfl (fun h => ?_)
  refine gv_n hq 6 (S' := (74, [some (.ref 116), some (.int ((nI 40) + ((nI 6) * (D 122 4))))], [.int (-1 : Int32), .int (((nI 40) + ((nI 6) * (D 122 4))) + (nI 3)), .ref 122], (sD r3.2 122 ((((nI 40) + ((nI 6) * (D 122 4))) + (nI 2))).toNatClampNeg r3.1), E)) rfl ?_
  refine gv_is hq rfl rfl h 75 rfl (fun h => ?_)
  refine gv_n hq 6 (S' := (83, [some (.ref 116), some (.int ((nI 40) + ((nI 6) * (D 122 4))))], [.int (-1 : Int32), .int (((nI 40) + ((nI 6) * (D 122 4))) + (nI 4)), .ref 122], (sD (sD r3.2 122 ((((nI 40) + ((nI 6) * (D 122 4))) + (nI 2))).toNatClampNeg r3.1) 122 ((((nI 40) + ((nI 6) * (D 122 4))) + (nI 3))).toNatClampNeg (-1 : Int32)), E)) rfl ?_
  refine gv_is hq rfl rfl h 84 rfl (fun h => ?_)
  refine gv_n hq 6 (S' := (92, [some (.ref 116), some (.int ((nI 40) + ((nI 6) * (D 122 4))))], [.int (-1 : Int32), .int (((nI 40) + ((nI 6) * (D 122 4))) + (nI 5)), .ref 122], (sD (sD (sD r3.2 122 ((((nI 40) + ((nI 6) * (D 122 4))) + (nI 2))).toNatClampNeg r3.1) 122 ((((nI 40) + ((nI 6) * (D 122 4))) + (nI 3))).toNatClampNeg (-1 : Int32)) 122 ((((nI 40) + ((nI 6) * (D 122 4))) + (nI 4))).toNatClampNeg (-1 : Int32)), E)) rfl ?_
  refine gv_is hq rfl rfl h 93 rfl (fun h => ?_)
  refine gv_n hq 8 (S' := (103, [some (.ref 116), some (.int ((nI 40) + ((nI 6) * (D 122 4))))], [], (sD (sD (sD (sD (sD r3.2 122 ((((nI 40) + ((nI 6) * (D 122 4))) + (nI 2))).toNatClampNeg r3.1) 122 ((((nI 40) + ((nI 6) * (D 122 4))) + (nI 3))).toNatClampNeg (-1 : Int32)) 122 ((((nI 40) + ((nI 6) * (D 122 4))) + (nI 4))).toNatClampNeg (-1 : Int32)) 122 ((((nI 40) + ((nI 6) * (D 122 4))) + (nI 5))).toNatClampNeg (-1 : Int32)) 122 4 (((sD (sD (sD (sD r3.2 122 ((((nI 40) + ((nI 6) * (D 122 4))) + (nI 2))).toNatClampNeg r3.1) 122 ((((nI 40) + ((nI 6) * (D 122 4))) + (nI 3))).toNatClampNeg (-1 : Int32)) 122 ((((nI 40) + ((nI 6) * (D 122 4))) + (nI 4))).toNatClampNeg (-1 : Int32)) 122 ((((nI 40) + ((nI 6) * (D 122 4))) + (nI 5))).toNatClampNeg (-1 : Int32)) 122 4) + (nI 1))), E)) rfl ?_
  cases h
  exact ev_ret hq rfl rfl ⟨rfl, rfl, rfl⟩
def g_M_readTrench (F : Nat) (D : mx_D) : Option (mx_D) := (Option.bind (g_M_number F (nI 0) ((D 122 0) - (nI 1)) D) (fun r1 => (Option.bind (g_M_number F (nI 0) ((r1.2 122 1) - (nI 1)) r1.2) (fun r2 => (Option.bind (g_M_number F (nI 1) (nI 60) r2.2) (fun r3 => (if (g_M_good r3.2) = 0 then (some r3.2) else (rk 106 (((nI 20) + ((nI 5) * r1.1)) + r2.1) (some (sD r3.2 122 ((((nI 20) + ((nI 5) * r1.1)) + r2.1)).toNatClampNeg r3.1))))))))))
set_option maxRecDepth 100000 in
set_option maxHeartbeats 4000000 in
theorem t_M_readTrench (X : ev_X) (F : Nat) (d : Nat) (hd : 3 ≤ d + 1) (E : mx_E) (D : mx_D) (v : mx_D) (h : g_M_readTrench F D = some v) : ev X (d + 1) 202 (0, [some (.ref 116), none, none, none], [], D, E) (qR none v E) := by
  have hq : kq_m 202 = some kq_q202 := rfl
  unfold g_M_readTrench at h
  refine gv_n hq 8 (S' := (10, [some (.ref 116), none, none, none], [.int ((D 122 0) - (nI 1)), .int (nI 0), .ref 116], D, E)) rfl ?_
  obtain ⟨r1, h1, h⟩ := Option.bind_eq_some_iff.mp h
  refine gv_d hq rfl rfl rfl rfl rfl (gv_dd (by omega) (t_M_number X F (d - 1) (by omega) E _ _ _ _ h1)) (S' := (13, [some (.ref 116), none, none, none], [.int r1.1], r1.2, E)) rfl ?_
  refine gv_n hq 9 (S' := (24, [some (.ref 116), some (.int r1.1), none, none], [.int ((r1.2 122 1) - (nI 1)), .int (nI 0), .ref 116], r1.2, E)) rfl ?_
  obtain ⟨r2, h1, h⟩ := Option.bind_eq_some_iff.mp h
  refine gv_d hq rfl rfl rfl rfl rfl (gv_dd (by omega) (t_M_number X F (d - 1) (by omega) E _ _ _ _ h1)) (S' := (27, [some (.ref 116), some (.int r1.1), none, none], [.int r2.1], r2.2, E)) rfl ?_
  refine gv_n hq 4 (S' := (32, [some (.ref 116), some (.int r1.1), some (.int r2.1), none], [.int (nI 60), .int (nI 1), .ref 116], r2.2, E)) rfl ?_
  obtain ⟨r3, h1, h⟩ := Option.bind_eq_some_iff.mp h
  refine gv_d hq rfl rfl rfl rfl rfl (gv_dd (by omega) (t_M_number X F (d - 1) (by omega) E _ _ _ _ h1)) (S' := (35, [some (.ref 116), some (.int r1.1), some (.int r2.1), none], [.int r3.1], r3.2, E)) rfl ?_
  refine gv_n hq 2 (S' := (37, [some (.ref 116), some (.int r1.1), some (.int r2.1), some (.int r3.1)], [.ref 116], r3.2, E)) rfl ?_
  refine gv_d hq rfl rfl rfl rfl rfl ((t_M_good X d r3.2 E _ rfl)) (S' := (40, [some (.ref 116), some (.int r1.1), some (.int r2.1), some (.int r3.1)], [.int (g_M_good r3.2)], r3.2, E)) rfl ?_
  refine gv_b hq rfl h 57 43 rfl rfl rfl (fun h => ?_) (fun h => ?_)
  · cases h
    exact ev_ret hq rfl rfl ⟨rfl, rfl, rfl⟩
  · refine gv_n hq 10 (S' := (56, [some (.ref 116), some (.int r1.1), some (.int r2.1), some (.int r3.1)], [.int r3.1, .int (((nI 20) + ((nI 5) * r1.1)) + r2.1), .ref 122], r3.2, E)) rfl ?_
    refine gv_is hq rfl rfl h 57 rfl (fun h => ?_)
    cases h
    exact ev_ret hq rfl rfl ⟨rfl, rfl, rfl⟩
def b_M_readPew_80 (F : Nat) (l1 : Int32) (l4 : Int32) (s1 : Int32) (s2 : Int32) (D : mx_D) : Option (mx_D) := (rk 106 s1 (rk 106 (((nI 8) + ((nI 3) * l1)) + (nI 1)) (some (sD (sD D 122 (s1).toNatClampNeg s2) 122 ((((nI 8) + ((nI 3) * l1)) + (nI 1))).toNatClampNeg l4))))
set_option maxRecDepth 100000 in
set_option maxHeartbeats 4000000 in
theorem tb_M_readPew_80 (X : ev_X) (F : Nat) (d : Nat) (hd : 13 ≤ d + 1) (E : mx_E)  (l1 : Int32) (l4 : Int32) (s1 : Int32) (s2 : Int32) (D : mx_D) (v : mx_D) (h : b_M_readPew_80 F l1 l4 s1 s2 D = some v) : ev X (d + 1) 201 (80, [some (.ref 116), some (.int l1), none, none, some (.int l4)], [.int s2, .int s1, .ref 122], D, E) (qR none v E) := by
  have hq : kq_m 201 = some kq_q201 := rfl
  unfold b_M_readPew_80 at h
  refine gv_is hq rfl rfl h 81 rfl (fun h => ?_)
  refine gv_n hq 10 (S' := (95, [some (.ref 116), some (.int l1), none, none, some (.int l4)], [.int l4, .int (((nI 8) + ((nI 3) * l1)) + (nI 1)), .ref 122], (sD D 122 (s1).toNatClampNeg s2), E)) rfl ?_
  refine gv_is hq rfl rfl h 96 rfl (fun h => ?_)
  cases h
  exact ev_ret hq rfl rfl ⟨rfl, rfl, rfl⟩
def b_M_readPew_31 (F : Nat) (l1 : Int32) (l2 : Int32) (D : mx_D) : Option (mx_D) := (Option.bind (g_M_number F (nI 0) (nI 40) D) (fun r4 => (Option.bind (g_M_told F 1010 (nI 0) (nI 9) r4.2) (fun r5 => (if (g_M_good r5.2) = 0 then (some r5.2) else (if l2 = 0 then (b_M_readPew_80 F l1 r5.1 (((nI 8) + ((nI 3) * l1)) + (nI 0)) r4.1 r5.2) else (b_M_readPew_80 F l1 r5.1 (((nI 8) + ((nI 3) * l1)) + (nI 0)) (-r4.1) r5.2)))))))
set_option maxRecDepth 100000 in
set_option maxHeartbeats 4000000 in
theorem tb_M_readPew_31 (X : ev_X) (F : Nat) (d : Nat) (hd : 13 ≤ d + 1) (E : mx_E)  (l1 : Int32) (l2 : Int32) (D : mx_D) (v : mx_D) (h : b_M_readPew_31 F l1 l2 D = some v) : ev X (d + 1) 201 (31, [some (.ref 116), some (.int l1), some (.int l2), none, none], [], D, E) (qR none v E) := by
  have hq : kq_m 201 = some kq_q201 := rfl
  unfold b_M_readPew_31 at h
  refine gv_n hq 3 (S' := (35, [some (.ref 116), some (.int l1), some (.int l2), none, none], [.int (nI 40), .int (nI 0), .ref 116], D, E)) rfl ?_
  obtain ⟨r4, h1, h⟩ := Option.bind_eq_some_iff.mp h
  refine gv_d hq rfl rfl rfl rfl rfl (gv_dd (by omega) (t_M_number X F (d - 1) (by omega) E _ _ _ _ h1)) (S' := (38, [some (.ref 116), some (.int l1), some (.int l2), none, none], [.int r4.1], r4.2, E)) rfl ?_
  refine gv_n hq 5 (S' := (45, [some (.ref 116), some (.int l1), some (.int l2), some (.int r4.1), none], [.int (nI 9), .int (nI 0), .ref 1010, .ref 116], r4.2, E)) rfl ?_
  obtain ⟨r5, h1, h⟩ := Option.bind_eq_some_iff.mp h
  refine gv_d hq rfl rfl rfl rfl rfl (gv_dd (by omega) (t_M_told X F (d - 1) (by omega) E _ _ _ _ _ h1)) (S' := (48, [some (.ref 116), some (.int l1), some (.int l2), some (.int r4.1), none], [.int r5.1], r5.2, E)) rfl ?_
  refine gv_n hq 2 (S' := (51, [some (.ref 116), some (.int l1), some (.int l2), some (.int r4.1), some (.int r5.1)], [.ref 116], r5.2, E)) rfl ?_
  refine gv_d hq rfl rfl rfl rfl rfl ((t_M_good X d r5.2 E _ rfl)) (S' := (54, [some (.ref 116), some (.int l1), some (.int l2), some (.int r4.1), some (.int r5.1)], [.int (g_M_good r5.2)], r5.2, E)) rfl ?_
  refine gv_b hq rfl h 57 58 rfl rfl rfl (fun h => ?_) (fun h => ?_)
  · cases h
    exact ev_ret hq rfl rfl ⟨rfl, rfl, rfl⟩
  · refine gv_n hq 10 (S' := (71, [some (.ref 116), some (.int l1), some (.int l2), some (.int r4.1), some (.int r5.1)], [.int l2, .int (((nI 8) + ((nI 3) * l1)) + (nI 0)), .ref 122], r5.2, E)) rfl ?_
    refine gv_b hq rfl h 79 74 rfl rfl rfl (fun h => ?_) (fun h => ?_)
    · refine gv_n hq 1 (S' := (80, [some (.ref 116), some (.int l1), some (.int l2), some (.int r4.1), some (.int r5.1)], [.int r4.1, .int (((nI 8) + ((nI 3) * l1)) + (nI 0)), .ref 122], r5.2, E)) rfl ?_
      exact gv_w (tb_M_readPew_80 X F d hd E _ _ _ _ _ _ h) (And.intro rfl (And.intro rfl (And.intro rfl trivial)))
    · refine gv_n hq 3 (S' := (80, [some (.ref 116), some (.int l1), some (.int l2), some (.int r4.1), some (.int r5.1)], [.int (-r4.1), .int (((nI 8) + ((nI 3) * l1)) + (nI 0)), .ref 122], r5.2, E)) rfl ?_
      exact gv_w (tb_M_readPew_80 X F d hd E _ _ _ _ _ _ h) (And.intro rfl (And.intro rfl (And.intro rfl trivial)))
def g_M_readPew (F : Nat) (D : mx_D) : Option (mx_D) := (Option.bind (g_M_number F (nI 0) ((D 122 0) - (nI 1)) D) (fun r1 => (Option.bind (g_M_takes F 1008 r1.2) (fun r2 => (if r2.1 = 0 then (Option.bind (g_M_needs F 1009 r2.2) (fun r3 => (b_M_readPew_31 F r1.1 r2.1 r3))) else (b_M_readPew_31 F r1.1 r2.1 r2.2))))))
set_option maxRecDepth 100000 in
set_option maxHeartbeats 4000000 in
theorem t_M_readPew (X : ev_X) (F : Nat) (d : Nat) (hd : 13 ≤ d + 1) (E : mx_E) (D : mx_D) (v : mx_D) (h : g_M_readPew F D = some v) : ev X (d + 1) 201 (0, [some (.ref 116), none, none, none, none], [], D, E) (qR none v E) := by
  have hq : kq_m 201 = some kq_q201 := rfl
  unfold g_M_readPew at h
  refine gv_n hq 8 (S' := (10, [some (.ref 116), none, none, none, none], [.int ((D 122 0) - (nI 1)), .int (nI 0), .ref 116], D, E)) rfl ?_
  obtain ⟨r1, h1, h⟩ := Option.bind_eq_some_iff.mp h
  refine gv_d hq rfl rfl rfl rfl rfl (gv_dd (by omega) (t_M_number X F (d - 1) (by omega) E _ _ _ _ h1)) (S' := (13, [some (.ref 116), none, none, none, none], [.int r1.1], r1.2, E)) rfl ?_
  refine gv_n hq 3 (S' := (17, [some (.ref 116), some (.int r1.1), none, none, none], [.ref 1008, .ref 116], r1.2, E)) rfl ?_
  obtain ⟨r2, h1, h⟩ := Option.bind_eq_some_iff.mp h
  refine gv_d hq rfl rfl rfl rfl rfl (gv_dd (by omega) (t_M_takes X F (d - 1) (by omega) E _ _ _ h1)) (S' := (20, [some (.ref 116), some (.int r1.1), none, none, none], [.int r2.1], r2.2, E)) rfl ?_
  refine gv_n hq 2 (S' := (22, [some (.ref 116), some (.int r1.1), some (.int r2.1), none, none], [.int r2.1], r2.2, E)) rfl ?_
  refine gv_b hq rfl h 25 31 rfl rfl rfl (fun h => ?_) (fun h => ?_)
  · refine gv_n hq 2 (S' := (28, [some (.ref 116), some (.int r1.1), some (.int r2.1), none, none], [.ref 1009, .ref 116], r2.2, E)) rfl ?_
    obtain ⟨r3, h1, h⟩ := Option.bind_eq_some_iff.mp h
    refine gv_d hq rfl rfl rfl rfl rfl (gv_dd (by omega) (t_M_needs X F (d - 1) (by omega) E _ _ _ h1)) (S' := (31, [some (.ref 116), some (.int r1.1), some (.int r2.1), none, none], [], r3, E)) rfl ?_
    exact gv_w (tb_M_readPew_31 X F d hd E _ _ _ _ h) (And.intro rfl (And.intro rfl (And.intro rfl trivial)))
  · exact gv_w (tb_M_readPew_31 X F d hd E _ _ _ _ h) (And.intro rfl (And.intro rfl (And.intro rfl trivial)))
def b_M_readNext_152 (F : Nat) (D : mx_D) : Option (mx_D) := (if (g_M_good D) = 0 then (some D) else (Option.bind (g_M_takes F 1007 D) (fun r12 => (if r12.1 = 0 then (Option.bind (g_M_takes F 1011 r12.2) (fun r13 => (if r13.1 = 0 then (Option.bind (g_M_takes F 1012 r13.2) (fun r14 => (if r14.1 = 0 then (Option.bind (g_M_takes F 1016 r14.2) (fun r15 => (if r15.1 = 0 then (Option.bind (g_M_takes F 1017 r15.2) (fun r16 => (if r16.1 = 0 then (Option.bind (g_M_takes F 1018 r16.2) (fun r17 => (if r17.1 = 0 then (Option.bind (g_M_takes F 1019 r17.2) (fun r18 => (if r18.1 = 0 then (Option.bind (g_M_advance F r18.2) (fun r19 => (Option.bind (g_M_readStands F r19) (fun r20 => (some r20))))) else (Option.bind (g_M_number F (nI 1) (nI 30) r18.2) (fun r21 => (rk 106 ((nI 96) + ((nI 2) * (r18.2 122 6))) (rk 106 (((nI 96) + ((nI 2) * ((sD r21.2 122 (((nI 96) + ((nI 2) * (r18.2 122 6)))).toNatClampNeg r21.1) 122 6))) + (nI 1)) (some (sD (sD (sD r21.2 122 (((nI 96) + ((nI 2) * (r18.2 122 6)))).toNatClampNeg r21.1) 122 ((((nI 96) + ((nI 2) * ((sD r21.2 122 (((nI 96) + ((nI 2) * (r18.2 122 6)))).toNatClampNeg r21.1) 122 6))) + (nI 1))).toNatClampNeg (-1 : Int32)) 122 6 (((sD (sD r21.2 122 (((nI 96) + ((nI 2) * (r18.2 122 6)))).toNatClampNeg r21.1) 122 ((((nI 96) + ((nI 2) * ((sD r21.2 122 (((nI 96) + ((nI 2) * (r18.2 122 6)))).toNatClampNeg r21.1) 122 6))) + (nI 1))).toNatClampNeg (-1 : Int32)) 122 6) + (nI 1))))))))))) else (Option.bind (g_M_readWears F r17.2) (fun r22 => (some r22)))))) else (Option.bind (g_M_number F (nI 0) (nI 30) r16.2) (fun r23 => (rk 106 ((nI 88) + (r16.2 122 5)) (some (sD (sD r23.2 122 (((nI 88) + (r16.2 122 5))).toNatClampNeg r23.1) 122 5 (((sD r23.2 122 (((nI 88) + (r16.2 122 5))).toNatClampNeg r23.1) 122 5) + (nI 1)))))))))) else (Option.bind (g_M_readSits F r15.2) (fun r24 => (some r24)))))) else (Option.bind (g_M_readPerson F r14.2) (fun r25 => (some r25)))))) else (Option.bind (g_M_readTrench F r13.2) (fun r26 => (some r26)))))) else (Option.bind (g_M_readPew F r12.2) (fun r27 => (some r27)))))))
set_option maxRecDepth 100000 in
set_option maxHeartbeats 4000000 in
theorem tb_M_readNext_152 (X : ev_X) (F : Nat) (d : Nat) (hd : 14 ≤ d + 1) (E : mx_E)  (D : mx_D) (v : mx_D) (h : b_M_readNext_152 F D = some v) : ev X (d + 1) 200 (152, [some (.ref 116), none], [], D, E) (qR none v E) := by
  have hq : kq_m 200 = some kq_q200 := rfl
  unfold b_M_readNext_152 at h
  refine gv_n hq 1 (S' := (153, [some (.ref 116), none], [.ref 116], D, E)) rfl ?_
  refine gv_d hq rfl rfl rfl rfl rfl ((t_M_good X d D E _ rfl)) (S' := (156, [some (.ref 116), none], [.int (g_M_good D)], D, E)) rfl ?_
  refine gv_b hq rfl h 159 160 rfl rfl rfl (fun h => ?_) (fun h => ?_)
  · cases h
    exact ev_ret hq rfl rfl ⟨rfl, rfl, rfl⟩
  · refine gv_n hq 2 (S' := (163, [some (.ref 116), none], [.ref 1007, .ref 116], D, E)) rfl ?_
    obtain ⟨r12, h1, h⟩ := Option.bind_eq_some_iff.mp h
    refine gv_d hq rfl rfl rfl rfl rfl (gv_dd (by omega) (t_M_takes X F (d - 1) (by omega) E _ _ _ h1)) (S' := (166, [some (.ref 116), none], [.int r12.1], r12.2, E)) rfl ?_
    refine gv_b hq rfl h 176 169 rfl rfl rfl (fun h => ?_) (fun h => ?_)
    · refine gv_n hq 2 (S' := (179, [some (.ref 116), none], [.ref 1011, .ref 116], r12.2, E)) rfl ?_
      obtain ⟨r13, h1, h⟩ := Option.bind_eq_some_iff.mp h
      refine gv_d hq rfl rfl rfl rfl rfl (gv_dd (by omega) (t_M_takes X F (d - 1) (by omega) E _ _ _ h1)) (S' := (182, [some (.ref 116), none], [.int r13.1], r13.2, E)) rfl ?_
      refine gv_b hq rfl h 192 185 rfl rfl rfl (fun h => ?_) (fun h => ?_)
      · refine gv_n hq 2 (S' := (195, [some (.ref 116), none], [.ref 1012, .ref 116], r13.2, E)) rfl ?_
        obtain ⟨r14, h1, h⟩ := Option.bind_eq_some_iff.mp h
        refine gv_d hq rfl rfl rfl rfl rfl (gv_dd (by omega) (t_M_takes X F (d - 1) (by omega) E _ _ _ h1)) (S' := (198, [some (.ref 116), none], [.int r14.1], r14.2, E)) rfl ?_
        refine gv_b hq rfl h 208 201 rfl rfl rfl (fun h => ?_) (fun h => ?_)
        · refine gv_n hq 2 (S' := (211, [some (.ref 116), none], [.ref 1016, .ref 116], r14.2, E)) rfl ?_
          obtain ⟨r15, h1, h⟩ := Option.bind_eq_some_iff.mp h
          refine gv_d hq rfl rfl rfl rfl rfl (gv_dd (by omega) (t_M_takes X F (d - 1) (by omega) E _ _ _ h1)) (S' := (214, [some (.ref 116), none], [.int r15.1], r15.2, E)) rfl ?_
          refine gv_b hq rfl h 224 217 rfl rfl rfl (fun h => ?_) (fun h => ?_)
          · refine gv_n hq 2 (S' := (227, [some (.ref 116), none], [.ref 1017, .ref 116], r15.2, E)) rfl ?_
            obtain ⟨r16, h1, h⟩ := Option.bind_eq_some_iff.mp h
            refine gv_d hq rfl rfl rfl rfl rfl (gv_dd (by omega) (t_M_takes X F (d - 1) (by omega) E _ _ _ h1)) (S' := (230, [some (.ref 116), none], [.int r16.1], r16.2, E)) rfl ?_
            refine gv_b hq rfl h 267 233 rfl rfl rfl (fun h => ?_) (fun h => ?_)
            · refine gv_n hq 2 (S' := (270, [some (.ref 116), none], [.ref 1018, .ref 116], r16.2, E)) rfl ?_
              obtain ⟨r17, h1, h⟩ := Option.bind_eq_some_iff.mp h
              refine gv_d hq rfl rfl rfl rfl rfl (gv_dd (by omega) (t_M_takes X F (d - 1) (by omega) E _ _ _ h1)) (S' := (273, [some (.ref 116), none], [.int r17.1], r17.2, E)) rfl ?_
              refine gv_b hq rfl h 283 276 rfl rfl rfl (fun h => ?_) (fun h => ?_)
              · refine gv_n hq 2 (S' := (286, [some (.ref 116), none], [.ref 1019, .ref 116], r17.2, E)) rfl ?_
                obtain ⟨r18, h1, h⟩ := Option.bind_eq_some_iff.mp h
                refine gv_d hq rfl rfl rfl rfl rfl (gv_dd (by omega) (t_M_takes X F (d - 1) (by omega) E _ _ _ h1)) (S' := (289, [some (.ref 116), none], [.int r18.1], r18.2, E)) rfl ?_
                refine gv_b hq rfl h 350 292 rfl rfl rfl (fun h => ?_) (fun h => ?_)
                · refine gv_n hq 1 (S' := (351, [some (.ref 116), none], [.ref 116], r18.2, E)) rfl ?_
                  obtain ⟨r19, h1, h⟩ := Option.bind_eq_some_iff.mp h
                  refine gv_d hq rfl rfl rfl rfl rfl (gv_dd (by omega) (t_M_advance X F (d - 1) (by omega) E _ _ h1)) (S' := (354, [some (.ref 116), none], [], r19, E)) rfl ?_
                  refine gv_n hq 1 (S' := (355, [some (.ref 116), none], [.ref 116], r19, E)) rfl ?_
                  obtain ⟨r20, h1, h⟩ := Option.bind_eq_some_iff.mp h
                  refine gv_d hq rfl rfl rfl rfl rfl (gv_dd (by omega) (t_M_readStands X F (d - 1) (by omega) E _ _ h1)) (S' := (358, [some (.ref 116), none], [], r20, E)) rfl ?_
                  cases h
                  exact ev_ret hq rfl rfl ⟨rfl, rfl, rfl⟩
                · refine gv_n hq 13 (S' := (312, [some (.ref 116), none], [.int (nI 30), .int (nI 1), .ref 116, .int ((nI 96) + ((nI 2) * (r18.2 122 6))), .ref 122], r18.2, E)) rfl ?_
                  obtain ⟨r21, h1, h⟩ := Option.bind_eq_some_iff.mp h
                  refine gv_d hq rfl rfl rfl rfl rfl (gv_dd (by omega) (t_M_number X F (d - 1) (by omega) E _ _ _ _ h1)) (S' := (315, [some (.ref 116), none], [.int r21.1, .int ((nI 96) + ((nI 2) * (r18.2 122 6))), .ref 122], r21.2, E)) rfl ?_
                  refine gv_is hq rfl rfl h 316 rfl (fun h => ?_)
                  refine gv_n hq 13 (S' := (335, [some (.ref 116), none], [.int (-1 : Int32), .int (((nI 96) + ((nI 2) * ((sD r21.2 122 (((nI 96) + ((nI 2) * (r18.2 122 6)))).toNatClampNeg r21.1) 122 6))) + (nI 1)), .ref 122], (sD r21.2 122 (((nI 96) + ((nI 2) * (r18.2 122 6)))).toNatClampNeg r21.1), E)) rfl ?_
                  refine gv_is hq rfl rfl h 336 rfl (fun h => ?_)
                  refine gv_n hq 9 (S' := (358, [some (.ref 116), none], [], (sD (sD (sD r21.2 122 (((nI 96) + ((nI 2) * (r18.2 122 6)))).toNatClampNeg r21.1) 122 ((((nI 96) + ((nI 2) * ((sD r21.2 122 (((nI 96) + ((nI 2) * (r18.2 122 6)))).toNatClampNeg r21.1) 122 6))) + (nI 1))).toNatClampNeg (-1 : Int32)) 122 6 (((sD (sD r21.2 122 (((nI 96) + ((nI 2) * (r18.2 122 6)))).toNatClampNeg r21.1) 122 ((((nI 96) + ((nI 2) * ((sD r21.2 122 (((nI 96) + ((nI 2) * (r18.2 122 6)))).toNatClampNeg r21.1) 122 6))) + (nI 1))).toNatClampNeg (-1 : Int32)) 122 6) + (nI 1))), E)) rfl ?_
                  cases h
                  exact ev_ret hq rfl rfl ⟨rfl, rfl, rfl⟩
              · refine gv_n hq 1 (S' := (277, [some (.ref 116), none], [.ref 116], r17.2, E)) rfl ?_
                obtain ⟨r22, h1, h⟩ := Option.bind_eq_some_iff.mp h
                refine gv_d hq rfl rfl rfl rfl rfl (gv_dd (by omega) (t_M_readWears X F (d - 1) (by omega) E _ _ h1)) (S' := (280, [some (.ref 116), none], [], r22, E)) rfl ?_
                refine gv_n hq 1 (S' := (358, [some (.ref 116), none], [], r22, E)) rfl ?_
                cases h
                exact ev_ret hq rfl rfl ⟨rfl, rfl, rfl⟩
            · refine gv_n hq 11 (S' := (250, [some (.ref 116), none], [.int (nI 30), .int (nI 0), .ref 116, .int ((nI 88) + (r16.2 122 5)), .ref 122], r16.2, E)) rfl ?_
              obtain ⟨r23, h1, h⟩ := Option.bind_eq_some_iff.mp h
              refine gv_d hq rfl rfl rfl rfl rfl (gv_dd (by omega) (t_M_number X F (d - 1) (by omega) E _ _ _ _ h1)) (S' := (253, [some (.ref 116), none], [.int r23.1, .int ((nI 88) + (r16.2 122 5)), .ref 122], r23.2, E)) rfl ?_
              refine gv_is hq rfl rfl h 254 rfl (fun h => ?_)
              refine gv_n hq 9 (S' := (358, [some (.ref 116), none], [], (sD (sD r23.2 122 (((nI 88) + (r16.2 122 5))).toNatClampNeg r23.1) 122 5 (((sD r23.2 122 (((nI 88) + (r16.2 122 5))).toNatClampNeg r23.1) 122 5) + (nI 1))), E)) rfl ?_
              cases h
              exact ev_ret hq rfl rfl ⟨rfl, rfl, rfl⟩
          · refine gv_n hq 1 (S' := (218, [some (.ref 116), none], [.ref 116], r15.2, E)) rfl ?_
            obtain ⟨r24, h1, h⟩ := Option.bind_eq_some_iff.mp h
            refine gv_d hq rfl rfl rfl rfl rfl (gv_dd (by omega) (t_M_readSits X F (d - 1) (by omega) E _ _ h1)) (S' := (221, [some (.ref 116), none], [], r24, E)) rfl ?_
            refine gv_n hq 1 (S' := (358, [some (.ref 116), none], [], r24, E)) rfl ?_
            cases h
            exact ev_ret hq rfl rfl ⟨rfl, rfl, rfl⟩
        · refine gv_n hq 1 (S' := (202, [some (.ref 116), none], [.ref 116], r14.2, E)) rfl ?_
          obtain ⟨r25, h1, h⟩ := Option.bind_eq_some_iff.mp h
          refine gv_d hq rfl rfl rfl rfl rfl (gv_dd (by omega) (t_M_readPerson X F (d - 1) (by omega) E _ _ h1)) (S' := (205, [some (.ref 116), none], [], r25, E)) rfl ?_
          refine gv_n hq 1 (S' := (358, [some (.ref 116), none], [], r25, E)) rfl ?_
          cases h
          exact ev_ret hq rfl rfl ⟨rfl, rfl, rfl⟩
      · refine gv_n hq 1 (S' := (186, [some (.ref 116), none], [.ref 116], r13.2, E)) rfl ?_
        obtain ⟨r26, h1, h⟩ := Option.bind_eq_some_iff.mp h
        refine gv_d hq rfl rfl rfl rfl rfl (gv_dd (by omega) (t_M_readTrench X F (d - 1) (by omega) E _ _ h1)) (S' := (189, [some (.ref 116), none], [], r26, E)) rfl ?_
        refine gv_n hq 1 (S' := (358, [some (.ref 116), none], [], r26, E)) rfl ?_
        cases h
        exact ev_ret hq rfl rfl ⟨rfl, rfl, rfl⟩
    · refine gv_n hq 1 (S' := (170, [some (.ref 116), none], [.ref 116], r12.2, E)) rfl ?_
      obtain ⟨r27, h1, h⟩ := Option.bind_eq_some_iff.mp h
      refine gv_d hq rfl rfl rfl rfl rfl (gv_dd (by omega) (t_M_readPew X F (d - 1) (by omega) E _ _ h1)) (S' := (173, [some (.ref 116), none], [], r27, E)) rfl ?_
      refine gv_n hq 1 (S' := (358, [some (.ref 116), none], [], r27, E)) rfl ?_
      cases h
      exact ev_ret hq rfl rfl ⟨rfl, rfl, rfl⟩
def b_M_readNext_147 (F : Nat) (D : mx_D) : Option (mx_D) := (b_M_readNext_152 F (g_M_errs (nI 3) D))
set_option maxRecDepth 100000 in
set_option maxHeartbeats 4000000 in
theorem tb_M_readNext_147 (X : ev_X) (F : Nat) (d : Nat) (hd : 14 ≤ d + 1) (E : mx_E)  (D : mx_D) (v : mx_D) (h : b_M_readNext_147 F D = some v) : ev X (d + 1) 200 (147, [some (.ref 116), none], [], D, E) (qR none v E) := by
  have hq : kq_m 200 = some kq_q200 := rfl
  unfold b_M_readNext_147 at h
  refine gv_n hq 2 (S' := (149, [some (.ref 116), none], [.int (nI 3), .ref 116], D, E)) rfl ?_
  refine gv_d hq rfl rfl rfl rfl rfl (gv_dd (by omega) (t_M_errs X (d - 1) (by omega) E _ _ _ rfl)) (S' := (152, [some (.ref 116), none], [], (g_M_errs (nI 3) D), E)) rfl ?_
  exact gv_w (tb_M_readNext_152 X F d hd E _ _ h) (And.intro rfl trivial)
def b_M_readNext_127 (F : Nat) (D : mx_D) : Option (mx_D) := (Option.bind (g_M_is F D 1019) (fun r11 => (if r11 = 0 then (b_M_readNext_152 F D) else (if (D 122 6) = (nI 5) then (b_M_readNext_147 F D) else (b_M_readNext_152 F D)))))
set_option maxRecDepth 100000 in
set_option maxHeartbeats 4000000 in
theorem tb_M_readNext_127 (X : ev_X) (F : Nat) (d : Nat) (hd : 14 ≤ d + 1) (E : mx_E)  (D : mx_D) (v : mx_D) (h : b_M_readNext_127 F D = some v) : ev X (d + 1) 200 (127, [some (.ref 116), none], [], D, E) (qR none v E) := by
  have hq : kq_m 200 = some kq_q200 := rfl
  unfold b_M_readNext_127 at h
  refine gv_n hq 2 (S' := (130, [some (.ref 116), none], [.ref 1019, .ref 116], D, E)) rfl ?_
  obtain ⟨r11, h1, h⟩ := Option.bind_eq_some_iff.mp h
  refine gv_d hq rfl rfl rfl rfl rfl (gv_dd (by omega) (t_M_is X F (d - 1) (by omega) D E _ _ h1)) (S' := (133, [some (.ref 116), none], [.int r11], D, E)) rfl ?_
  refine gv_b hq rfl h 152 136 rfl rfl rfl (fun h => ?_) (fun h => ?_)
  · exact gv_w (tb_M_readNext_152 X F d hd E _ _ h) (And.intro rfl trivial)
  · refine gv_n hq 5 (S' := (144, [some (.ref 116), none], [.int (nI 5), .int (D 122 6)], D, E)) rfl ?_
    refine gv_b hq rfl h 147 152 rfl rfl rfl (fun h => ?_) (fun h => ?_)
    · exact gv_w (tb_M_readNext_147 X F d hd E _ _ h) (And.intro rfl trivial)
    · exact gv_w (tb_M_readNext_152 X F d hd E _ _ h) (And.intro rfl trivial)
def b_M_readNext_107 (F : Nat) (D : mx_D) : Option (mx_D) := (Option.bind (g_M_is F D 1017) (fun r10 => (if r10 = 0 then (b_M_readNext_127 F D) else (if (D 122 5) = (nI 8) then (b_M_readNext_147 F D) else (b_M_readNext_127 F D)))))
set_option maxRecDepth 100000 in
set_option maxHeartbeats 4000000 in
theorem tb_M_readNext_107 (X : ev_X) (F : Nat) (d : Nat) (hd : 14 ≤ d + 1) (E : mx_E)  (D : mx_D) (v : mx_D) (h : b_M_readNext_107 F D = some v) : ev X (d + 1) 200 (107, [some (.ref 116), none], [], D, E) (qR none v E) := by
  have hq : kq_m 200 = some kq_q200 := rfl
  unfold b_M_readNext_107 at h
  refine gv_n hq 2 (S' := (110, [some (.ref 116), none], [.ref 1017, .ref 116], D, E)) rfl ?_
  obtain ⟨r10, h1, h⟩ := Option.bind_eq_some_iff.mp h
  refine gv_d hq rfl rfl rfl rfl rfl (gv_dd (by omega) (t_M_is X F (d - 1) (by omega) D E _ _ h1)) (S' := (113, [some (.ref 116), none], [.int r10], D, E)) rfl ?_
  refine gv_b hq rfl h 127 116 rfl rfl rfl (fun h => ?_) (fun h => ?_)
  · exact gv_w (tb_M_readNext_127 X F d hd E _ _ h) (And.intro rfl trivial)
  · refine gv_n hq 5 (S' := (124, [some (.ref 116), none], [.int (nI 8), .int (D 122 5)], D, E)) rfl ?_
    refine gv_b hq rfl h 147 127 rfl rfl rfl (fun h => ?_) (fun h => ?_)
    · exact gv_w (tb_M_readNext_147 X F d hd E _ _ h) (And.intro rfl trivial)
    · exact gv_w (tb_M_readNext_127 X F d hd E _ _ h) (And.intro rfl trivial)
def b_M_readNext_87 (F : Nat) (D : mx_D) : Option (mx_D) := (Option.bind (g_M_is F D 1012) (fun r9 => (if r9 = 0 then (b_M_readNext_107 F D) else (if (D 122 4) = (nI 8) then (b_M_readNext_147 F D) else (b_M_readNext_107 F D)))))
set_option maxRecDepth 100000 in
set_option maxHeartbeats 4000000 in
theorem tb_M_readNext_87 (X : ev_X) (F : Nat) (d : Nat) (hd : 14 ≤ d + 1) (E : mx_E)  (D : mx_D) (v : mx_D) (h : b_M_readNext_87 F D = some v) : ev X (d + 1) 200 (87, [some (.ref 116), none], [], D, E) (qR none v E) := by
  have hq : kq_m 200 = some kq_q200 := rfl
  unfold b_M_readNext_87 at h
  refine gv_n hq 2 (S' := (90, [some (.ref 116), none], [.ref 1012, .ref 116], D, E)) rfl ?_
  obtain ⟨r9, h1, h⟩ := Option.bind_eq_some_iff.mp h
  refine gv_d hq rfl rfl rfl rfl rfl (gv_dd (by omega) (t_M_is X F (d - 1) (by omega) D E _ _ h1)) (S' := (93, [some (.ref 116), none], [.int r9], D, E)) rfl ?_
  refine gv_b hq rfl h 107 96 rfl rfl rfl (fun h => ?_) (fun h => ?_)
  · exact gv_w (tb_M_readNext_107 X F d hd E _ _ h) (And.intro rfl trivial)
  · refine gv_n hq 5 (S' := (104, [some (.ref 116), none], [.int (nI 8), .int (D 122 4)], D, E)) rfl ?_
    refine gv_b hq rfl h 147 107 rfl rfl rfl (fun h => ?_) (fun h => ?_)
    · exact gv_w (tb_M_readNext_147 X F d hd E _ _ h) (And.intro rfl trivial)
    · exact gv_w (tb_M_readNext_107 X F d hd E _ _ h) (And.intro rfl trivial)
def b_M_readNext_77 (F : Nat) (s0 : Int32) (D : mx_D) : Option (mx_D) := (if s0 = 0 then (b_M_readNext_87 F (g_M_errs (nI 1) D)) else (b_M_readNext_87 F D))
set_option maxRecDepth 100000 in
set_option maxHeartbeats 4000000 in
theorem tb_M_readNext_77 (X : ev_X) (F : Nat) (d : Nat) (hd : 14 ≤ d + 1) (E : mx_E)  (s0 : Int32) (D : mx_D) (v : mx_D) (h : b_M_readNext_77 F s0 D = some v) : ev X (d + 1) 200 (77, [some (.ref 116), none], [.int s0], D, E) (qR none v E) := by
  have hq : kq_m 200 = some kq_q200 := rfl
  unfold b_M_readNext_77 at h
  refine gv_n hq 2 (S' := (79, [some (.ref 116), some (.int s0)], [.int s0], D, E)) rfl ?_
  refine gv_b hq rfl h 82 87 rfl rfl rfl (fun h => ?_) (fun h => ?_)
  · refine gv_n hq 2 (S' := (84, [some (.ref 116), some (.int s0)], [.int (nI 1), .ref 116], D, E)) rfl ?_
    refine gv_d hq rfl rfl rfl rfl rfl (gv_dd (by omega) (t_M_errs X (d - 1) (by omega) E _ _ _ rfl)) (S' := (87, [some (.ref 116), some (.int s0)], [], (g_M_errs (nI 1) D), E)) rfl ?_
    exact gv_w (tb_M_readNext_87 X F d hd E _ _ h) (And.intro rfl trivial)
  · exact gv_w (tb_M_readNext_87 X F d hd E _ _ h) (And.intro rfl trivial)
def b_M_readNext_72 (F : Nat) (D : mx_D) : Option (mx_D) := (b_M_readNext_77 F (nI 1) D)
set_option maxRecDepth 100000 in
set_option maxHeartbeats 4000000 in
theorem tb_M_readNext_72 (X : ev_X) (F : Nat) (d : Nat) (hd : 14 ≤ d + 1) (E : mx_E)  (D : mx_D) (v : mx_D) (h : b_M_readNext_72 F D = some v) : ev X (d + 1) 200 (72, [some (.ref 116), none], [], D, E) (qR none v E) := by
  have hq : kq_m 200 = some kq_q200 := rfl
  unfold b_M_readNext_72 at h
  refine gv_n hq 2 (S' := (77, [some (.ref 116), none], [.int (nI 1)], D, E)) rfl ?_
  exact gv_w (tb_M_readNext_77 X F d hd E _ _ _ h) (And.intro rfl trivial)
def g_M_readNext (F : Nat) (D : mx_D) : Option (mx_D) := (Option.bind (g_M_is F D 1007) (fun r1 => (if r1 = 0 then (Option.bind (g_M_is F D 1011) (fun r2 => (if r2 = 0 then (Option.bind (g_M_is F D 1012) (fun r3 => (if r3 = 0 then (Option.bind (g_M_is F D 1016) (fun r4 => (if r4 = 0 then (Option.bind (g_M_is F D 1017) (fun r5 => (if r5 = 0 then (Option.bind (g_M_is F D 1018) (fun r6 => (if r6 = 0 then (Option.bind (g_M_is F D 1019) (fun r7 => (if r7 = 0 then (Option.bind (g_M_is F D 1020) (fun r8 => (if r8 = 0 then (b_M_readNext_77 F (nI 0) D) else (b_M_readNext_72 F D)))) else (b_M_readNext_72 F D)))) else (b_M_readNext_72 F D)))) else (b_M_readNext_72 F D)))) else (b_M_readNext_72 F D)))) else (b_M_readNext_72 F D)))) else (b_M_readNext_72 F D)))) else (b_M_readNext_72 F D))))
set_option maxRecDepth 100000 in
set_option maxHeartbeats 4000000 in
theorem t_M_readNext (X : ev_X) (F : Nat) (d : Nat) (hd : 14 ≤ d + 1) (E : mx_E) (D : mx_D) (v : mx_D) (h : g_M_readNext F D = some v) : ev X (d + 1) 200 (0, [some (.ref 116), none], [], D, E) (qR none v E) := by
  have hq : kq_m 200 = some kq_q200 := rfl
  unfold g_M_readNext at h
  refine gv_n hq 2 (S' := (3, [some (.ref 116), none], [.ref 1007, .ref 116], D, E)) rfl ?_
  obtain ⟨r1, h1, h⟩ := Option.bind_eq_some_iff.mp h
  refine gv_d hq rfl rfl rfl rfl rfl (gv_dd (by omega) (t_M_is X F (d - 1) (by omega) D E _ _ h1)) (S' := (6, [some (.ref 116), none], [.int r1], D, E)) rfl ?_
  refine gv_b hq rfl h 9 72 rfl rfl rfl (fun h => ?_) (fun h => ?_)
  · refine gv_n hq 2 (S' := (12, [some (.ref 116), none], [.ref 1011, .ref 116], D, E)) rfl ?_
    obtain ⟨r2, h1, h⟩ := Option.bind_eq_some_iff.mp h
    refine gv_d hq rfl rfl rfl rfl rfl (gv_dd (by omega) (t_M_is X F (d - 1) (by omega) D E _ _ h1)) (S' := (15, [some (.ref 116), none], [.int r2], D, E)) rfl ?_
    refine gv_b hq rfl h 18 72 rfl rfl rfl (fun h => ?_) (fun h => ?_)
    · refine gv_n hq 2 (S' := (21, [some (.ref 116), none], [.ref 1012, .ref 116], D, E)) rfl ?_
      obtain ⟨r3, h1, h⟩ := Option.bind_eq_some_iff.mp h
      refine gv_d hq rfl rfl rfl rfl rfl (gv_dd (by omega) (t_M_is X F (d - 1) (by omega) D E _ _ h1)) (S' := (24, [some (.ref 116), none], [.int r3], D, E)) rfl ?_
      refine gv_b hq rfl h 27 72 rfl rfl rfl (fun h => ?_) (fun h => ?_)
      · refine gv_n hq 2 (S' := (30, [some (.ref 116), none], [.ref 1016, .ref 116], D, E)) rfl ?_
        obtain ⟨r4, h1, h⟩ := Option.bind_eq_some_iff.mp h
        refine gv_d hq rfl rfl rfl rfl rfl (gv_dd (by omega) (t_M_is X F (d - 1) (by omega) D E _ _ h1)) (S' := (33, [some (.ref 116), none], [.int r4], D, E)) rfl ?_
        refine gv_b hq rfl h 36 72 rfl rfl rfl (fun h => ?_) (fun h => ?_)
        · refine gv_n hq 2 (S' := (39, [some (.ref 116), none], [.ref 1017, .ref 116], D, E)) rfl ?_
          obtain ⟨r5, h1, h⟩ := Option.bind_eq_some_iff.mp h
          refine gv_d hq rfl rfl rfl rfl rfl (gv_dd (by omega) (t_M_is X F (d - 1) (by omega) D E _ _ h1)) (S' := (42, [some (.ref 116), none], [.int r5], D, E)) rfl ?_
          refine gv_b hq rfl h 45 72 rfl rfl rfl (fun h => ?_) (fun h => ?_)
          · refine gv_n hq 2 (S' := (48, [some (.ref 116), none], [.ref 1018, .ref 116], D, E)) rfl ?_
            obtain ⟨r6, h1, h⟩ := Option.bind_eq_some_iff.mp h
            refine gv_d hq rfl rfl rfl rfl rfl (gv_dd (by omega) (t_M_is X F (d - 1) (by omega) D E _ _ h1)) (S' := (51, [some (.ref 116), none], [.int r6], D, E)) rfl ?_
            refine gv_b hq rfl h 54 72 rfl rfl rfl (fun h => ?_) (fun h => ?_)
            · refine gv_n hq 2 (S' := (57, [some (.ref 116), none], [.ref 1019, .ref 116], D, E)) rfl ?_
              obtain ⟨r7, h1, h⟩ := Option.bind_eq_some_iff.mp h
              refine gv_d hq rfl rfl rfl rfl rfl (gv_dd (by omega) (t_M_is X F (d - 1) (by omega) D E _ _ h1)) (S' := (60, [some (.ref 116), none], [.int r7], D, E)) rfl ?_
              refine gv_b hq rfl h 63 72 rfl rfl rfl (fun h => ?_) (fun h => ?_)
              · refine gv_n hq 2 (S' := (66, [some (.ref 116), none], [.ref 1020, .ref 116], D, E)) rfl ?_
                obtain ⟨r8, h1, h⟩ := Option.bind_eq_some_iff.mp h
                refine gv_d hq rfl rfl rfl rfl rfl (gv_dd (by omega) (t_M_is X F (d - 1) (by omega) D E _ _ h1)) (S' := (69, [some (.ref 116), none], [.int r8], D, E)) rfl ?_
                refine gv_b hq rfl h 76 72 rfl rfl rfl (fun h => ?_) (fun h => ?_)
                · refine gv_n hq 1 (S' := (77, [some (.ref 116), none], [.int (nI 0)], D, E)) rfl ?_
                  exact gv_w (tb_M_readNext_77 X F d hd E _ _ _ h) (And.intro rfl trivial)
                · exact gv_w (tb_M_readNext_72 X F d hd E _ _ h) (And.intro rfl trivial)
              · exact gv_w (tb_M_readNext_72 X F d hd E _ _ h) (And.intro rfl trivial)
            · exact gv_w (tb_M_readNext_72 X F d hd E _ _ h) (And.intro rfl trivial)
          · exact gv_w (tb_M_readNext_72 X F d hd E _ _ h) (And.intro rfl trivial)
        · exact gv_w (tb_M_readNext_72 X F d hd E _ _ h) (And.intro rfl trivial)
      · exact gv_w (tb_M_readNext_72 X F d hd E _ _ h) (And.intro rfl trivial)
    · exact gv_w (tb_M_readNext_72 X F d hd E _ _ h) (And.intro rfl trivial)
  · exact gv_w (tb_M_readNext_72 X F d hd E _ _ h) (And.intro rfl trivial)
def b_M_readLine_41 (F : Nat) (D : mx_D) : Option (mx_D) := (if (g_M_good D) = 0 then (some (sD D 122 7 ((D 122 7) + (nI 1)))) else (Option.bind (g_M_advance F D) (fun r2 => (some (sD r2 122 7 ((r2 122 7) + (nI 1)))))))
set_option maxRecDepth 100000 in
set_option maxHeartbeats 4000000 in
theorem tb_M_readLine_41 (X : ev_X) (F : Nat) (d : Nat) (hd : 15 ≤ d + 1) (E : mx_E)  (D : mx_D) (v : mx_D) (h : b_M_readLine_41 F D = some v) : ev X (d + 1) 192 (41, [some (.ref 116)], [], D, E) (qR none v E) := by
  have hq : kq_m 192 = some kq_q192 := rfl
  unfold b_M_readLine_41 at h
  refine gv_n hq 1 (S' := (42, [some (.ref 116)], [.ref 116], D, E)) rfl ?_
  refine gv_d hq rfl rfl rfl rfl rfl ((t_M_good X d D E _ rfl)) (S' := (45, [some (.ref 116)], [.int (g_M_good D)], D, E)) rfl ?_
  refine gv_b hq rfl h 52 48 rfl rfl rfl (fun h => ?_) (fun h => ?_)
  · refine gv_n hq 8 (S' := (63, [some (.ref 116)], [], (sD D 122 7 ((D 122 7) + (nI 1))), E)) rfl ?_
    cases h
    exact ev_ret hq rfl rfl ⟨rfl, rfl, rfl⟩
  · refine gv_n hq 1 (S' := (49, [some (.ref 116)], [.ref 116], D, E)) rfl ?_
    obtain ⟨r2, h1, h⟩ := Option.bind_eq_some_iff.mp h
    refine gv_d hq rfl rfl rfl rfl rfl (gv_dd (by omega) (t_M_advance X F (d - 1) (by omega) E _ _ h1)) (S' := (52, [some (.ref 116)], [], r2, E)) rfl ?_
    refine gv_n hq 8 (S' := (63, [some (.ref 116)], [], (sD r2 122 7 ((r2 122 7) + (nI 1))), E)) rfl ?_
    cases h
    exact ev_ret hq rfl rfl ⟨rfl, rfl, rfl⟩
def b_M_readLine_21 (F : Nat) (D : mx_D) : Option (mx_D) := (if (g_M_good D) = 0 then (b_M_readLine_41 F D) else (if (D 116 10) = (nI 3) then (b_M_readLine_41 F D) else (b_M_readLine_41 F (g_M_errs (nI 1) D))))
set_option maxRecDepth 100000 in
set_option maxHeartbeats 4000000 in
theorem tb_M_readLine_21 (X : ev_X) (F : Nat) (d : Nat) (hd : 15 ≤ d + 1) (E : mx_E)  (D : mx_D) (v : mx_D) (h : b_M_readLine_21 F D = some v) : ev X (d + 1) 192 (21, [some (.ref 116)], [], D, E) (qR none v E) := by
  have hq : kq_m 192 = some kq_q192 := rfl
  unfold b_M_readLine_21 at h
  refine gv_n hq 1 (S' := (22, [some (.ref 116)], [.ref 116], D, E)) rfl ?_
  refine gv_d hq rfl rfl rfl rfl rfl ((t_M_good X d D E _ rfl)) (S' := (25, [some (.ref 116)], [.int (g_M_good D)], D, E)) rfl ?_
  refine gv_b hq rfl h 41 28 rfl rfl rfl (fun h => ?_) (fun h => ?_)
  · exact gv_w (tb_M_readLine_41 X F d hd E _ _ h) (And.intro rfl trivial)
  · refine gv_n hq 3 (S' := (33, [some (.ref 116)], [.int (nI 3), .int (D 116 10)], D, E)) rfl ?_
    refine gv_b hq rfl h 41 36 rfl rfl rfl (fun h => ?_) (fun h => ?_)
    · exact gv_w (tb_M_readLine_41 X F d hd E _ _ h) (And.intro rfl trivial)
    · refine gv_n hq 2 (S' := (38, [some (.ref 116)], [.int (nI 1), .ref 116], D, E)) rfl ?_
      refine gv_d hq rfl rfl rfl rfl rfl (gv_dd (by omega) (t_M_errs X (d - 1) (by omega) E _ _ _ rfl)) (S' := (41, [some (.ref 116)], [], (g_M_errs (nI 1) D), E)) rfl ?_
      exact gv_w (tb_M_readLine_41 X F d hd E _ _ h) (And.intro rfl trivial)
def g_M_readLine (F : Nat) (D : mx_D) : Option (mx_D) := (if (D 122 7) = 0 then (Option.bind (g_M_readFirst F D) (fun r1 => (b_M_readLine_21 F r1))) else (Option.bind (g_M_readNext F D) (fun r3 => (b_M_readLine_21 F r3))))
set_option maxRecDepth 100000 in
set_option maxHeartbeats 4000000 in
theorem t_M_readLine (X : ev_X) (F : Nat) (d : Nat) (hd : 15 ≤ d + 1) (E : mx_E) (D : mx_D) (v : mx_D) (h : g_M_readLine F D = some v) : ev X (d + 1) 192 (0, [some (.ref 116)], [], D, E) (qR none v E) := by
  have hq : kq_m 192 = some kq_q192 := rfl
  unfold g_M_readLine at h
  refine gv_n hq 4 (S' := (7, [some (.ref 116)], [.int (D 122 7)], D, E)) rfl ?_
  refine gv_b hq rfl h 10 17 rfl rfl rfl (fun h => ?_) (fun h => ?_)
  · refine gv_n hq 1 (S' := (11, [some (.ref 116)], [.ref 116], D, E)) rfl ?_
    obtain ⟨r1, h1, h⟩ := Option.bind_eq_some_iff.mp h
    refine gv_d hq rfl rfl rfl rfl rfl (gv_dd (by omega) (t_M_readFirst X F (d - 1) (by omega) E _ _ h1)) (S' := (14, [some (.ref 116)], [], r1, E)) rfl ?_
    refine gv_n hq 1 (S' := (21, [some (.ref 116)], [], r1, E)) rfl ?_
    exact gv_w (tb_M_readLine_21 X F d hd E _ _ h) (And.intro rfl trivial)
  · refine gv_n hq 1 (S' := (18, [some (.ref 116)], [.ref 116], D, E)) rfl ?_
    obtain ⟨r3, h1, h⟩ := Option.bind_eq_some_iff.mp h
    refine gv_d hq rfl rfl rfl rfl rfl (gv_dd (by omega) (t_M_readNext X F (d - 1) (by omega) E _ _ h1)) (S' := (21, [some (.ref 116)], [], r3, E)) rfl ?_
    exact gv_w (tb_M_readLine_21 X F d hd E _ _ h) (And.intro rfl trivial)
def b_M_church_86 (F : Nat) (k86 : Int32 → mx_D → Option (Int32 × mx_D)) (l1 : Int32) (D : mx_D) : Option (Int32 × mx_D) := (if (nI 106) ≤ l1 then (some ((D 117 7), D)) else (rk 106 l1 (rk 106 l1 (k86 (l1 + (nI 1)) (sD D 117 (l1).toNatClampNeg (D 122 (l1).toNatClampNeg))))))
set_option maxRecDepth 100000 in
set_option maxHeartbeats 4000000 in
theorem tb_M_church_86 (X : ev_X) (F : Nat) (d : Nat) (hd : 16 ≤ d + 1) (E : mx_E) (k86 : Int32 → mx_D → Option (Int32 × mx_D)) (K86 : ∀ (l1 : Int32) (D : mx_D) (v : Int32 × mx_D), k86 l1 D = some v → ev X (d + 1) 188 (86, [some (.ref 116), some (.int l1)], [], D, E) (qR (some (.int v.1)) v.2 E)) (l1 : Int32) (D : mx_D) (v : Int32 × mx_D) (h : b_M_church_86 F k86 l1 D = some v) : ev X (d + 1) 188 (86, [some (.ref 116), some (.int l1)], [], D, E) (qR (some (.int v.1)) v.2 E) := by
  have hq : kq_m 188 = some kq_q188 := rfl
  unfold b_M_church_86 at h
  refine gv_n hq 2 (S' := (89, [some (.ref 116), some (.int l1)], [.int (nI 106), .int l1], D, E)) rfl ?_
  refine gv_b hq rfl h 110 92 rfl rfl rfl (fun h => ?_) (fun h => ?_)
  · refine gv_n hq 4 (S' := (117, [some (.ref 116), some (.int l1)], [.int (D 117 7)], D, E)) rfl ?_
    cases h
    exact ev_ret hq rfl rfl ⟨rfl, rfl, rfl⟩
  · refine gv_n hq 6 (S' := (102, [some (.ref 116), some (.int l1)], [.int l1, .ref 122, .int l1, .ref 117], D, E)) rfl ?_
    refine gv_ia hq rfl rfl rfl h 103 rfl (fun h => ?_)
    refine gv_is hq rfl rfl h 104 rfl (fun h => ?_)
    refine gv_n hq 2 (S' := (86, [some (.ref 116), some (.int (l1 + (nI 1)))], [], (sD D 117 (l1).toNatClampNeg (D 122 (l1).toNatClampNeg)), E)) rfl ?_
    exact gv_w (K86 _ _ _ h) (And.intro rfl (And.intro rfl trivial))
def g_M_church_86 (F : Nat) : Nat → Int32 → mx_D → Option (Int32 × mx_D) := it (fun k86 => b_M_church_86 F k86) (fun _ _ => none)
set_option maxRecDepth 100000 in
set_option maxHeartbeats 4000000 in
theorem t_M_church_86 (X : ev_X) (F : Nat) (d : Nat) (hd : 16 ≤ d + 1) (E : mx_E)  : ∀ (n : Nat) (l1 : Int32) (D : mx_D) (v : Int32 × mx_D), g_M_church_86 F n l1 D = some v → ev X (d + 1) 188 (86, [some (.ref 116), some (.int l1)], [], D, E) (qR (some (.int v.1)) v.2 E) := by
  intro n
  induction n with
  | zero => intro l1 D v h; cases h
  | succ n ih => intro l1 D v h; exact tb_M_church_86 X F d hd E (g_M_church_86 F n) ih l1 D v h
def b_M_church_53 (F : Nat) (k53 : mx_D → Option (Int32 × mx_D)) (D : mx_D) : Option (Int32 × mx_D) := (if (g_M_good D) = 0 then (if (g_M_good D) = 0 then (some ((-4 : Int32), D)) else (g_M_church_86 F F (nI 0) D)) else (if (D 116 10) = 0 then (if (g_M_good D) = 0 then (some ((-4 : Int32), D)) else (g_M_church_86 F F (nI 0) D)) else (Option.bind (g_M_readLine F D) (fun r2 => (k53 r2)))))
set_option maxRecDepth 100000 in
set_option maxHeartbeats 4000000 in
theorem tb_M_church_53 (X : ev_X) (F : Nat) (d : Nat) (hd : 16 ≤ d + 1) (E : mx_E) (k53 : mx_D → Option (Int32 × mx_D)) (K53 : ∀ (D : mx_D) (v : Int32 × mx_D), k53 D = some v → ev X (d + 1) 188 (53, [some (.ref 116), none], [], D, E) (qR (some (.int v.1)) v.2 E)) (D : mx_D) (v : Int32 × mx_D) (h : b_M_church_53 F k53 D = some v) : ev X (d + 1) 188 (53, [some (.ref 116), none], [], D, E) (qR (some (.int v.1)) v.2 E) := by
  have hq : kq_m 188 = some kq_q188 := rfl
  unfold b_M_church_53 at h
  refine gv_n hq 1 (S' := (54, [some (.ref 116), none], [.ref 116], D, E)) rfl ?_
  refine gv_d hq rfl rfl rfl rfl rfl ((t_M_good X d D E _ rfl)) (S' := (57, [some (.ref 116), none], [.int (g_M_good D)], D, E)) rfl ?_
  refine gv_b hq rfl h 74 60 rfl rfl rfl (fun h => ?_) (fun h => ?_)
  · refine gv_n hq 1 (S' := (75, [some (.ref 116), none], [.ref 116], D, E)) rfl ?_
    refine gv_d hq rfl rfl rfl rfl rfl ((t_M_good X d D E _ rfl)) (S' := (78, [some (.ref 116), none], [.int (g_M_good D)], D, E)) rfl ?_
    refine gv_b hq rfl h 81 84 rfl rfl rfl (fun h => ?_) (fun h => ?_)
    · refine gv_n hq 1 (S' := (83, [some (.ref 116), none], [.int (-4 : Int32)], D, E)) rfl ?_
      cases h
      exact ev_ret hq rfl rfl ⟨rfl, rfl, rfl⟩
    · refine gv_n hq 2 (S' := (86, [some (.ref 116), some (.int (nI 0))], [], D, E)) rfl ?_
      exact gv_w (t_M_church_86 X F d hd E F _ _ _ h) (And.intro rfl (And.intro rfl trivial))
  · refine gv_n hq 2 (S' := (64, [some (.ref 116), none], [.int (D 116 10)], D, E)) rfl ?_
    refine gv_b hq rfl h 74 67 rfl rfl rfl (fun h => ?_) (fun h => ?_)
    · refine gv_n hq 1 (S' := (75, [some (.ref 116), none], [.ref 116], D, E)) rfl ?_
      refine gv_d hq rfl rfl rfl rfl rfl ((t_M_good X d D E _ rfl)) (S' := (78, [some (.ref 116), none], [.int (g_M_good D)], D, E)) rfl ?_
      refine gv_b hq rfl h 81 84 rfl rfl rfl (fun h => ?_) (fun h => ?_)
      · refine gv_n hq 1 (S' := (83, [some (.ref 116), none], [.int (-4 : Int32)], D, E)) rfl ?_
        cases h
        exact ev_ret hq rfl rfl ⟨rfl, rfl, rfl⟩
      · refine gv_n hq 2 (S' := (86, [some (.ref 116), some (.int (nI 0))], [], D, E)) rfl ?_
        exact gv_w (t_M_church_86 X F d hd E F _ _ _ h) (And.intro rfl (And.intro rfl trivial))
    · refine gv_n hq 1 (S' := (68, [some (.ref 116), none], [.ref 116], D, E)) rfl ?_
      obtain ⟨r2, h1, h⟩ := Option.bind_eq_some_iff.mp h
      refine gv_d hq rfl rfl rfl rfl rfl (gv_dd (by omega) (t_M_readLine X F (d - 1) (by omega) E _ _ h1)) (S' := (71, [some (.ref 116), none], [], r2, E)) rfl ?_
      refine gv_n hq 1 (S' := (53, [some (.ref 116), none], [], r2, E)) rfl ?_
      exact gv_w (K53 _ _ h) (And.intro rfl trivial)
def g_M_church_53 (F : Nat) : Nat → mx_D → Option (Int32 × mx_D) := it (fun k53 => b_M_church_53 F k53) (fun _ => none)
set_option maxRecDepth 100000 in
set_option maxHeartbeats 4000000 in
theorem t_M_church_53 (X : ev_X) (F : Nat) (d : Nat) (hd : 16 ≤ d + 1) (E : mx_E)  : ∀ (n : Nat) (D : mx_D) (v : Int32 × mx_D), g_M_church_53 F n D = some v → ev X (d + 1) 188 (53, [some (.ref 116), none], [], D, E) (qR (some (.int v.1)) v.2 E) := by
  intro n
  induction n with
  | zero => intro D v h; cases h
  | succ n ih => intro D v h; exact tb_M_church_53 X F d hd E (g_M_church_53 F n) ih D v h
def b_M_church_30 (F : Nat) (k30 : Int32 → mx_D → Option (Int32 × mx_D)) (l1 : Int32) (D : mx_D) : Option (Int32 × mx_D) := (if (nI 106) ≤ l1 then (Option.bind (g_M_advance F D) (fun r1 => (g_M_church_53 F F r1))) else (rk 106 l1 (k30 (l1 + (nI 1)) (sD D 122 (l1).toNatClampNeg (nI 0)))))
set_option maxRecDepth 100000 in
set_option maxHeartbeats 4000000 in
theorem tb_M_church_30 (X : ev_X) (F : Nat) (d : Nat) (hd : 16 ≤ d + 1) (E : mx_E) (k30 : Int32 → mx_D → Option (Int32 × mx_D)) (K30 : ∀ (l1 : Int32) (D : mx_D) (v : Int32 × mx_D), k30 l1 D = some v → ev X (d + 1) 188 (30, [some (.ref 116), some (.int l1)], [], D, E) (qR (some (.int v.1)) v.2 E)) (l1 : Int32) (D : mx_D) (v : Int32 × mx_D) (h : b_M_church_30 F k30 l1 D = some v) : ev X (d + 1) 188 (30, [some (.ref 116), some (.int l1)], [], D, E) (qR (some (.int v.1)) v.2 E) := by
  have hq : kq_m 188 = some kq_q188 := rfl
  unfold b_M_church_30 at h
  refine gv_n hq 2 (S' := (33, [some (.ref 116), some (.int l1)], [.int (nI 106), .int l1], D, E)) rfl ?_
  refine gv_b hq rfl h 49 36 rfl rfl rfl (fun h => ?_) (fun h => ?_)
  · refine gv_n hq 1 (S' := (50, [some (.ref 116), some (.int l1)], [.ref 116], D, E)) rfl ?_
    obtain ⟨r1, h1, h⟩ := Option.bind_eq_some_iff.mp h
    refine gv_d hq rfl rfl rfl rfl rfl (gv_dd (by omega) (t_M_advance X F (d - 1) (by omega) E _ _ h1)) (S' := (53, [some (.ref 116), some (.int l1)], [], r1, E)) rfl ?_
    exact gv_w (t_M_church_53 X F d hd E F _ _ h) (And.intro rfl trivial)
  · refine gv_n hq 4 (S' := (42, [some (.ref 116), some (.int l1)], [.int (nI 0), .int l1, .ref 122], D, E)) rfl ?_
    refine gv_is hq rfl rfl h 43 rfl (fun h => ?_)
    refine gv_n hq 2 (S' := (30, [some (.ref 116), some (.int (l1 + (nI 1)))], [], (sD D 122 (l1).toNatClampNeg (nI 0)), E)) rfl ?_
    exact gv_w (K30 _ _ _ h) (And.intro rfl (And.intro rfl trivial))
def g_M_church_30 (F : Nat) : Nat → Int32 → mx_D → Option (Int32 × mx_D) := it (fun k30 => b_M_church_30 F k30) (fun _ _ => none)
set_option maxRecDepth 100000 in
set_option maxHeartbeats 4000000 in
theorem t_M_church_30 (X : ev_X) (F : Nat) (d : Nat) (hd : 16 ≤ d + 1) (E : mx_E)  : ∀ (n : Nat) (l1 : Int32) (D : mx_D) (v : Int32 × mx_D), g_M_church_30 F n l1 D = some v → ev X (d + 1) 188 (30, [some (.ref 116), some (.int l1)], [], D, E) (qR (some (.int v.1)) v.2 E) := by
  intro n
  induction n with
  | zero => intro l1 D v h; cases h
  | succ n ih => intro l1 D v h; exact tb_M_church_30 X F d hd E (g_M_church_30 F n) ih l1 D v h
def g_M_church (F : Nat) (D : mx_D) : Option (Int32 × mx_D) := (g_M_church_30 F F (nI 0) (sD (sD (sD (sD (sD D 116 7 (D 116 5)) 116 5 (nI 0)) 116 8 (nI 0)) 116 12 (nI 0)) 116 13 (-1 : Int32)))
set_option maxRecDepth 100000 in
set_option maxHeartbeats 4000000 in
theorem t_M_church (X : ev_X) (F : Nat) (d : Nat) (hd : 16 ≤ d + 1) (E : mx_E) (D : mx_D) (v : Int32 × mx_D) (h : g_M_church F D = some v) : ev X (d + 1) 188 (0, [some (.ref 116), none], [], D, E) (qR (some (.int v.1)) v.2 E) := by
  have hq : kq_m 188 = some kq_q188 := rfl
  unfold g_M_church at h
  refine gv_n hq 18 (S' := (30, [some (.ref 116), some (.int (nI 0))], [], (sD (sD (sD (sD (sD D 116 7 (D 116 5)) 116 5 (nI 0)) 116 8 (nI 0)) 116 12 (nI 0)) 116 13 (-1 : Int32)), E)) rfl ?_
  exact gv_w (t_M_church_30 X F d hd E F _ _ _ h) (And.intro rfl (And.intro rfl trivial))
def g_X_fault (D : mx_D) (a1 : Int32) : Int32 := (if a1 = 0 then (D 3 1) else (if a1 = (nI 1) then (D 3 2) else (-1 : Int32)))
set_option maxRecDepth 100000 in
set_option maxHeartbeats 4000000 in
theorem t_X_fault (X : ev_X) (d : Nat) (D : mx_D) (E : mx_E) (a1 : Int32) (v : Int32) (h : g_X_fault D a1 = v) : ev X d 108 (0, [some (.ref 0), some (.int a1)], [], D, E) (qR (some (.int v)) D E) := by
  have hq : kq_m 108 = some kq_q108 := rfl
  unfold g_X_fault at h
  refine gv_n hq 1 (S' := (1, [some (.ref 0), some (.int a1)], [.int a1], D, E)) rfl ?_
  refine gv_b hq rfl h 4 12 rfl rfl rfl (fun h => ?_) (fun h => ?_)
  · refine gv_n hq 3 (S' := (11, [some (.ref 0), some (.int a1)], [.int (D 3 1)], D, E)) rfl ?_
    subst h
    exact ev_ret hq rfl rfl ⟨rfl, rfl, rfl⟩
  · refine gv_n hq 2 (S' := (14, [some (.ref 0), some (.int a1)], [.int (nI 1), .int a1], D, E)) rfl ?_
    refine gv_b hq rfl h 17 27 rfl rfl rfl (fun h => ?_) (fun h => ?_)
    · refine gv_n hq 4 (S' := (28, [some (.ref 0), some (.int a1)], [.int (D 3 2)], D, E)) rfl ?_
      subst h
      exact ev_ret hq rfl rfl ⟨rfl, rfl, rfl⟩
    · refine gv_n hq 1 (S' := (28, [some (.ref 0), some (.int a1)], [.int (-1 : Int32)], D, E)) rfl ?_
      subst h
      exact ev_ret hq rfl rfl ⟨rfl, rfl, rfl⟩
def g_M_fault (D : mx_D) (a1 : Int32) : Int32 := (if a1 = 0 then (D 116 12) else (if a1 = (nI 1) then (D 116 13) else (-1 : Int32)))
set_option maxRecDepth 100000 in
set_option maxHeartbeats 4000000 in
theorem t_M_fault (X : ev_X) (d : Nat) (D : mx_D) (E : mx_E) (a1 : Int32) (v : Int32) (h : g_M_fault D a1 = v) : ev X d 187 (0, [some (.ref 116), some (.int a1)], [], D, E) (qR (some (.int v)) D E) := by
  have hq : kq_m 187 = some kq_q187 := rfl
  unfold g_M_fault at h
  refine gv_n hq 1 (S' := (1, [some (.ref 116), some (.int a1)], [.int a1], D, E)) rfl ?_
  refine gv_b hq rfl h 4 11 rfl rfl rfl (fun h => ?_) (fun h => ?_)
  · refine gv_n hq 3 (S' := (24, [some (.ref 116), some (.int a1)], [.int (D 116 12)], D, E)) rfl ?_
    subst h
    exact ev_ret hq rfl rfl ⟨rfl, rfl, rfl⟩
  · refine gv_n hq 2 (S' := (13, [some (.ref 116), some (.int a1)], [.int (nI 1), .int a1], D, E)) rfl ?_
    refine gv_b hq rfl h 16 23 rfl rfl rfl (fun h => ?_) (fun h => ?_)
    · refine gv_n hq 3 (S' := (24, [some (.ref 116), some (.int a1)], [.int (D 116 13)], D, E)) rfl ?_
      subst h
      exact ev_ret hq rfl rfl ⟨rfl, rfl, rfl⟩
    · refine gv_n hq 1 (S' := (24, [some (.ref 116), some (.int a1)], [.int (-1 : Int32)], D, E)) rfl ?_
      subst h
      exact ev_ret hq rfl rfl ⟨rfl, rfl, rfl⟩
def g_Church_hasPew (D : mx_D) (a1 : Int32) : Int32 := (if a1 < 0 then (nI 0) else (if (D 19 0) ≤ a1 then (nI 0) else (nI 1)))
set_option maxRecDepth 100000 in
set_option maxHeartbeats 4000000 in
theorem t_Church_hasPew (X : ev_X) (d : Nat) (D : mx_D) (E : mx_E) (a1 : Int32) (v : Int32) (h : g_Church_hasPew D a1 = v) : ev X d 16 (0, [some (.ref 19), some (.int a1)], [], D, E) (qR (some (.int v)) D E) := by
  have hq : kq_m 16 = some kq_q16 := rfl
  unfold g_Church_hasPew at h
  refine gv_n hq 1 (S' := (1, [some (.ref 19), some (.int a1)], [.int a1], D, E)) rfl ?_
  refine gv_b hq rfl h 16 4 rfl rfl rfl (fun h => ?_) (fun h => ?_)
  · refine gv_n hq 1 (S' := (17, [some (.ref 19), some (.int a1)], [.int (nI 0)], D, E)) rfl ?_
    subst h
    exact ev_ret hq rfl rfl ⟨rfl, rfl, rfl⟩
  · refine gv_n hq 3 (S' := (9, [some (.ref 19), some (.int a1)], [.int (D 19 0), .int a1], D, E)) rfl ?_
    refine gv_b hq rfl h 16 12 rfl rfl rfl (fun h => ?_) (fun h => ?_)
    · refine gv_n hq 1 (S' := (17, [some (.ref 19), some (.int a1)], [.int (nI 0)], D, E)) rfl ?_
      subst h
      exact ev_ret hq rfl rfl ⟨rfl, rfl, rfl⟩
    · refine gv_n hq 2 (S' := (17, [some (.ref 19), some (.int a1)], [.int (nI 1)], D, E)) rfl ?_
      subst h
      exact ev_ret hq rfl rfl ⟨rfl, rfl, rfl⟩
theorem z_Church_hasPew (D : mx_D) (a1 : Int32) : g_Church_hasPew D a1 = 0 ∨ g_Church_hasPew D a1 = 1 := by
  unfold g_Church_hasPew
  (repeat' split) <;> first | exact Or.inl rfl | exact Or.inr rfl
def g_Church_hasPerson (D : mx_D) (a1 : Int32) : Int32 := (if a1 < 0 then (nI 0) else (if (D 24 6) ≤ a1 then (nI 0) else (nI 1)))
set_option maxRecDepth 100000 in
set_option maxHeartbeats 4000000 in
theorem t_Church_hasPerson (X : ev_X) (d : Nat) (D : mx_D) (E : mx_E) (a1 : Int32) (v : Int32) (h : g_Church_hasPerson D a1 = v) : ev X d 12 (0, [some (.ref 19), some (.int a1)], [], D, E) (qR (some (.int v)) D E) := by
  have hq : kq_m 12 = some kq_q12 := rfl
  unfold g_Church_hasPerson at h
  refine gv_n hq 1 (S' := (1, [some (.ref 19), some (.int a1)], [.int a1], D, E)) rfl ?_
  refine gv_b hq rfl h 19 4 rfl rfl rfl (fun h => ?_) (fun h => ?_)
  · refine gv_n hq 1 (S' := (20, [some (.ref 19), some (.int a1)], [.int (nI 0)], D, E)) rfl ?_
    subst h
    exact ev_ret hq rfl rfl ⟨rfl, rfl, rfl⟩
  · refine gv_n hq 4 (S' := (12, [some (.ref 19), some (.int a1)], [.int (D 24 6), .int a1], D, E)) rfl ?_
    refine gv_b hq rfl h 19 15 rfl rfl rfl (fun h => ?_) (fun h => ?_)
    · refine gv_n hq 1 (S' := (20, [some (.ref 19), some (.int a1)], [.int (nI 0)], D, E)) rfl ?_
      subst h
      exact ev_ret hq rfl rfl ⟨rfl, rfl, rfl⟩
    · refine gv_n hq 2 (S' := (20, [some (.ref 19), some (.int a1)], [.int (nI 1)], D, E)) rfl ?_
      subst h
      exact ev_ret hq rfl rfl ⟨rfl, rfl, rfl⟩
theorem z_Church_hasPerson (D : mx_D) (a1 : Int32) : g_Church_hasPerson D a1 = 0 ∨ g_Church_hasPerson D a1 = 1 := by
  unfold g_Church_hasPerson
  (repeat' split) <;> first | exact Or.inl rfl | exact Or.inr rfl
def g_Church_isSeated (D : mx_D) (a1 : Int32) : Option (Int32) := (if (g_Church_hasPerson D a1) = 0 then (some (nI 0)) else (rk 8 a1 (if (D 28 (a1).toNatClampNeg) = (-1 : Int32) then (some (nI 0)) else (some (nI 1)))))
set_option maxRecDepth 100000 in
set_option maxHeartbeats 4000000 in
theorem t_Church_isSeated (X : ev_X) (d : Nat) (hd : 1 ≤ d + 1) (D : mx_D) (E : mx_E) (a1 : Int32) (v : Int32) (h : g_Church_isSeated D a1 = some v) : ev X (d + 1) 11 (0, [some (.ref 19), some (.int a1)], [], D, E) (qR (some (.int v)) D E) := by
  have hq : kq_m 11 = some kq_q11 := rfl
  unfold g_Church_isSeated at h
  refine gv_n hq 2 (S' := (2, [some (.ref 19), some (.int a1)], [.int a1, .ref 19], D, E)) rfl ?_
  refine gv_d hq rfl rfl rfl rfl rfl ((t_Church_hasPerson X d D E _ _ rfl)) (S' := (5, [some (.ref 19), some (.int a1)], [.int (g_Church_hasPerson D a1)], D, E)) rfl ?_
  refine gv_b hq rfl h 25 8 rfl rfl rfl (fun h => ?_) (fun h => ?_)
  · refine gv_n hq 1 (S' := (26, [some (.ref 19), some (.int a1)], [.int (nI 0)], D, E)) rfl ?_
    cases h
    exact ev_ret hq rfl rfl ⟨rfl, rfl, rfl⟩
  · refine gv_n hq 4 (S' := (16, [some (.ref 19), some (.int a1)], [.int a1, .ref 28], D, E)) rfl ?_
    refine gv_ia hq rfl rfl rfl h 17 rfl (fun h => ?_)
    refine gv_n hq 1 (S' := (18, [some (.ref 19), some (.int a1)], [.int (-1 : Int32), .int (D 28 (a1).toNatClampNeg)], D, E)) rfl ?_
    refine gv_b hq rfl h 25 21 rfl rfl rfl (fun h => ?_) (fun h => ?_)
    · refine gv_n hq 1 (S' := (26, [some (.ref 19), some (.int a1)], [.int (nI 0)], D, E)) rfl ?_
      cases h
      exact ev_ret hq rfl rfl ⟨rfl, rfl, rfl⟩
    · refine gv_n hq 2 (S' := (26, [some (.ref 19), some (.int a1)], [.int (nI 1)], D, E)) rfl ?_
      cases h
      exact ev_ret hq rfl rfl ⟨rfl, rfl, rfl⟩
def b_Church_sittersOf_4 (F : Nat) (D : mx_D) (k4 : Int32 → Int32 → Int32 → Option (Int32)) (l1 : Int32) (l2 : Int32) (l3 : Int32) : Option (Int32) := (if (D 24 6) ≤ l3 then (some l2) else (Option.bind (g_Church_isSeated D l3) (fun r1 => (if r1 = 0 then (k4 l1 l2 (l3 + (nI 1))) else (rk 8 l3 (if (D 28 (l3).toNatClampNeg) = l1 then (k4 l1 (l2 ||| ((nI 1) <<< (l3 &&& 31))) (l3 + (nI 1))) else (k4 l1 l2 (l3 + (nI 1)))))))))
set_option maxRecDepth 100000 in
set_option maxHeartbeats 4000000 in
theorem tb_Church_sittersOf_4 (X : ev_X) (F : Nat) (d : Nat) (hd : 2 ≤ d + 1) (D : mx_D) (E : mx_E) (k4 : Int32 → Int32 → Int32 → Option (Int32)) (K4 : ∀ (l1 : Int32) (l2 : Int32) (l3 : Int32) (v : Int32), k4 l1 l2 l3 = some v → ev X (d + 1) 17 (4, [some (.ref 19), some (.int l1), some (.int l2), some (.int l3)], [], D, E) (qR (some (.int v)) D E)) (l1 : Int32) (l2 : Int32) (l3 : Int32) (v : Int32) (h : b_Church_sittersOf_4 F D k4 l1 l2 l3 = some v) : ev X (d + 1) 17 (4, [some (.ref 19), some (.int l1), some (.int l2), some (.int l3)], [], D, E) (qR (some (.int v)) D E) := by
  have hq : kq_m 17 = some kq_q17 := rfl
  unfold b_Church_sittersOf_4 at h
  refine gv_n hq 4 (S' := (12, [some (.ref 19), some (.int l1), some (.int l2), some (.int l3)], [.int (D 24 6), .int l3], D, E)) rfl ?_
  refine gv_b hq rfl h 48 15 rfl rfl rfl (fun h => ?_) (fun h => ?_)
  · refine gv_n hq 1 (S' := (49, [some (.ref 19), some (.int l1), some (.int l2), some (.int l3)], [.int l2], D, E)) rfl ?_
    cases h
    exact ev_ret hq rfl rfl ⟨rfl, rfl, rfl⟩
  · refine gv_n hq 2 (S' := (17, [some (.ref 19), some (.int l1), some (.int l2), some (.int l3)], [.int l3, .ref 19], D, E)) rfl ?_
    obtain ⟨r1, h1, h⟩ := Option.bind_eq_some_iff.mp h
    refine gv_d hq rfl rfl rfl rfl rfl (gv_dd (by omega) (t_Church_isSeated X (d - 1) (by omega) D E _ _ h1)) (S' := (20, [some (.ref 19), some (.int l1), some (.int l2), some (.int l3)], [.int r1], D, E)) rfl ?_
    refine gv_b hq rfl h 42 23 rfl rfl rfl (fun h => ?_) (fun h => ?_)
    · refine gv_n hq 2 (S' := (4, [some (.ref 19), some (.int l1), some (.int l2), some (.int (l3 + (nI 1)))], [], D, E)) rfl ?_
      exact gv_w (K4 _ _ _ _ h) (And.intro rfl (And.intro rfl (And.intro rfl (And.intro rfl trivial))))
    · refine gv_n hq 4 (S' := (31, [some (.ref 19), some (.int l1), some (.int l2), some (.int l3)], [.int l3, .ref 28], D, E)) rfl ?_
      refine gv_ia hq rfl rfl rfl h 32 rfl (fun h => ?_)
      refine gv_n hq 1 (S' := (33, [some (.ref 19), some (.int l1), some (.int l2), some (.int l3)], [.int l1, .int (D 28 (l3).toNatClampNeg)], D, E)) rfl ?_
      refine gv_b hq rfl h 36 42 rfl rfl rfl (fun h => ?_) (fun h => ?_)
      · refine gv_n hq 8 (S' := (4, [some (.ref 19), some (.int l1), some (.int (l2 ||| ((nI 1) <<< (l3 &&& 31)))), some (.int (l3 + (nI 1)))], [], D, E)) rfl ?_
        exact gv_w (K4 _ _ _ _ h) (And.intro rfl (And.intro rfl (And.intro rfl (And.intro rfl trivial))))
      · refine gv_n hq 2 (S' := (4, [some (.ref 19), some (.int l1), some (.int l2), some (.int (l3 + (nI 1)))], [], D, E)) rfl ?_
        exact gv_w (K4 _ _ _ _ h) (And.intro rfl (And.intro rfl (And.intro rfl (And.intro rfl trivial))))
def g_Church_sittersOf_4 (F : Nat) (D : mx_D) : Nat → Int32 → Int32 → Int32 → Option (Int32) := it (fun k4 => b_Church_sittersOf_4 F D k4) (fun _ _ _ => none)
set_option maxRecDepth 100000 in
set_option maxHeartbeats 4000000 in
theorem t_Church_sittersOf_4 (X : ev_X) (F : Nat) (d : Nat) (hd : 2 ≤ d + 1) (D : mx_D) (E : mx_E)  : ∀ (n : Nat) (l1 : Int32) (l2 : Int32) (l3 : Int32) (v : Int32), g_Church_sittersOf_4 F D n l1 l2 l3 = some v → ev X (d + 1) 17 (4, [some (.ref 19), some (.int l1), some (.int l2), some (.int l3)], [], D, E) (qR (some (.int v)) D E) := by
  intro n
  induction n with
  | zero => intro l1 l2 l3 v h; cases h
  | succ n ih => intro l1 l2 l3 v h; exact tb_Church_sittersOf_4 X F d hd D E (g_Church_sittersOf_4 F D n) ih l1 l2 l3 v h
def g_Church_sittersOf (F : Nat) (D : mx_D) (a1 : Int32) : Option (Int32) := (g_Church_sittersOf_4 F D F a1 (nI 0) (nI 0))
set_option maxRecDepth 100000 in
set_option maxHeartbeats 4000000 in
theorem t_Church_sittersOf (X : ev_X) (F : Nat) (d : Nat) (hd : 2 ≤ d + 1) (D : mx_D) (E : mx_E) (a1 : Int32) (v : Int32) (h : g_Church_sittersOf F D a1 = some v) : ev X (d + 1) 17 (0, [some (.ref 19), some (.int a1), none, none], [], D, E) (qR (some (.int v)) D E) := by
  have hq : kq_m 17 = some kq_q17 := rfl
  unfold g_Church_sittersOf at h
  refine gv_n hq 4 (S' := (4, [some (.ref 19), some (.int a1), some (.int (nI 0)), some (.int (nI 0))], [], D, E)) rfl ?_
  exact gv_w (t_Church_sittersOf_4 X F d hd D E F _ _ _ _ h) (And.intro rfl (And.intro rfl (And.intro rfl (And.intro rfl trivial))))
def g_Integer_bitCount (a0 : Int32) : Int32 := ((((((((a0 - ((((a0).toUInt32 >>> (((nI 1)).toUInt32 &&& Int32.toUInt32 31)).toInt32) &&& (nI 1431655765))) &&& (nI 858993459)) + (((((a0 - ((((a0).toUInt32 >>> (((nI 1)).toUInt32 &&& Int32.toUInt32 31)).toInt32) &&& (nI 1431655765)))).toUInt32 >>> (((nI 2)).toUInt32 &&& Int32.toUInt32 31)).toInt32) &&& (nI 858993459))) + ((((((a0 - ((((a0).toUInt32 >>> (((nI 1)).toUInt32 &&& Int32.toUInt32 31)).toInt32) &&& (nI 1431655765))) &&& (nI 858993459)) + (((((a0 - ((((a0).toUInt32 >>> (((nI 1)).toUInt32 &&& Int32.toUInt32 31)).toInt32) &&& (nI 1431655765)))).toUInt32 >>> (((nI 2)).toUInt32 &&& Int32.toUInt32 31)).toInt32) &&& (nI 858993459)))).toUInt32 >>> (((nI 4)).toUInt32 &&& Int32.toUInt32 31)).toInt32)) &&& (nI 252645135)) + ((((((((a0 - ((((a0).toUInt32 >>> (((nI 1)).toUInt32 &&& Int32.toUInt32 31)).toInt32) &&& (nI 1431655765))) &&& (nI 858993459)) + (((((a0 - ((((a0).toUInt32 >>> (((nI 1)).toUInt32 &&& Int32.toUInt32 31)).toInt32) &&& (nI 1431655765)))).toUInt32 >>> (((nI 2)).toUInt32 &&& Int32.toUInt32 31)).toInt32) &&& (nI 858993459))) + ((((((a0 - ((((a0).toUInt32 >>> (((nI 1)).toUInt32 &&& Int32.toUInt32 31)).toInt32) &&& (nI 1431655765))) &&& (nI 858993459)) + (((((a0 - ((((a0).toUInt32 >>> (((nI 1)).toUInt32 &&& Int32.toUInt32 31)).toInt32) &&& (nI 1431655765)))).toUInt32 >>> (((nI 2)).toUInt32 &&& Int32.toUInt32 31)).toInt32) &&& (nI 858993459)))).toUInt32 >>> (((nI 4)).toUInt32 &&& Int32.toUInt32 31)).toInt32)) &&& (nI 252645135))).toUInt32 >>> (((nI 8)).toUInt32 &&& Int32.toUInt32 31)).toInt32)) + (((((((((a0 - ((((a0).toUInt32 >>> (((nI 1)).toUInt32 &&& Int32.toUInt32 31)).toInt32) &&& (nI 1431655765))) &&& (nI 858993459)) + (((((a0 - ((((a0).toUInt32 >>> (((nI 1)).toUInt32 &&& Int32.toUInt32 31)).toInt32) &&& (nI 1431655765)))).toUInt32 >>> (((nI 2)).toUInt32 &&& Int32.toUInt32 31)).toInt32) &&& (nI 858993459))) + ((((((a0 - ((((a0).toUInt32 >>> (((nI 1)).toUInt32 &&& Int32.toUInt32 31)).toInt32) &&& (nI 1431655765))) &&& (nI 858993459)) + (((((a0 - ((((a0).toUInt32 >>> (((nI 1)).toUInt32 &&& Int32.toUInt32 31)).toInt32) &&& (nI 1431655765)))).toUInt32 >>> (((nI 2)).toUInt32 &&& Int32.toUInt32 31)).toInt32) &&& (nI 858993459)))).toUInt32 >>> (((nI 4)).toUInt32 &&& Int32.toUInt32 31)).toInt32)) &&& (nI 252645135)) + ((((((((a0 - ((((a0).toUInt32 >>> (((nI 1)).toUInt32 &&& Int32.toUInt32 31)).toInt32) &&& (nI 1431655765))) &&& (nI 858993459)) + (((((a0 - ((((a0).toUInt32 >>> (((nI 1)).toUInt32 &&& Int32.toUInt32 31)).toInt32) &&& (nI 1431655765)))).toUInt32 >>> (((nI 2)).toUInt32 &&& Int32.toUInt32 31)).toInt32) &&& (nI 858993459))) + ((((((a0 - ((((a0).toUInt32 >>> (((nI 1)).toUInt32 &&& Int32.toUInt32 31)).toInt32) &&& (nI 1431655765))) &&& (nI 858993459)) + (((((a0 - ((((a0).toUInt32 >>> (((nI 1)).toUInt32 &&& Int32.toUInt32 31)).toInt32) &&& (nI 1431655765)))).toUInt32 >>> (((nI 2)).toUInt32 &&& Int32.toUInt32 31)).toInt32) &&& (nI 858993459)))).toUInt32 >>> (((nI 4)).toUInt32 &&& Int32.toUInt32 31)).toInt32)) &&& (nI 252645135))).toUInt32 >>> (((nI 8)).toUInt32 &&& Int32.toUInt32 31)).toInt32))).toUInt32 >>> (((nI 16)).toUInt32 &&& Int32.toUInt32 31)).toInt32)) &&& (nI 63))
set_option maxRecDepth 100000 in
set_option maxHeartbeats 4000000 in
theorem t_Integer_bitCount (X : ev_X) (d : Nat) (D : mx_D) (E : mx_E) (a0 : Int32) (v : Int32) (h : g_Integer_bitCount a0 = v) : ev X d 332 (0, [some (.int a0)], [], D, E) (qR (some (.int v)) D E) := by
  have hq : kq_m 332 = some kq_q332 := rfl
  unfold g_Integer_bitCount at h
  refine gv_n hq 41 (S' := (52, [some (.int (((((((a0 - ((((a0).toUInt32 >>> (((nI 1)).toUInt32 &&& Int32.toUInt32 31)).toInt32) &&& (nI 1431655765))) &&& (nI 858993459)) + (((((a0 - ((((a0).toUInt32 >>> (((nI 1)).toUInt32 &&& Int32.toUInt32 31)).toInt32) &&& (nI 1431655765)))).toUInt32 >>> (((nI 2)).toUInt32 &&& Int32.toUInt32 31)).toInt32) &&& (nI 858993459))) + ((((((a0 - ((((a0).toUInt32 >>> (((nI 1)).toUInt32 &&& Int32.toUInt32 31)).toInt32) &&& (nI 1431655765))) &&& (nI 858993459)) + (((((a0 - ((((a0).toUInt32 >>> (((nI 1)).toUInt32 &&& Int32.toUInt32 31)).toInt32) &&& (nI 1431655765)))).toUInt32 >>> (((nI 2)).toUInt32 &&& Int32.toUInt32 31)).toInt32) &&& (nI 858993459)))).toUInt32 >>> (((nI 4)).toUInt32 &&& Int32.toUInt32 31)).toInt32)) &&& (nI 252645135)) + ((((((((a0 - ((((a0).toUInt32 >>> (((nI 1)).toUInt32 &&& Int32.toUInt32 31)).toInt32) &&& (nI 1431655765))) &&& (nI 858993459)) + (((((a0 - ((((a0).toUInt32 >>> (((nI 1)).toUInt32 &&& Int32.toUInt32 31)).toInt32) &&& (nI 1431655765)))).toUInt32 >>> (((nI 2)).toUInt32 &&& Int32.toUInt32 31)).toInt32) &&& (nI 858993459))) + ((((((a0 - ((((a0).toUInt32 >>> (((nI 1)).toUInt32 &&& Int32.toUInt32 31)).toInt32) &&& (nI 1431655765))) &&& (nI 858993459)) + (((((a0 - ((((a0).toUInt32 >>> (((nI 1)).toUInt32 &&& Int32.toUInt32 31)).toInt32) &&& (nI 1431655765)))).toUInt32 >>> (((nI 2)).toUInt32 &&& Int32.toUInt32 31)).toInt32) &&& (nI 858993459)))).toUInt32 >>> (((nI 4)).toUInt32 &&& Int32.toUInt32 31)).toInt32)) &&& (nI 252645135))).toUInt32 >>> (((nI 8)).toUInt32 &&& Int32.toUInt32 31)).toInt32)) + (((((((((a0 - ((((a0).toUInt32 >>> (((nI 1)).toUInt32 &&& Int32.toUInt32 31)).toInt32) &&& (nI 1431655765))) &&& (nI 858993459)) + (((((a0 - ((((a0).toUInt32 >>> (((nI 1)).toUInt32 &&& Int32.toUInt32 31)).toInt32) &&& (nI 1431655765)))).toUInt32 >>> (((nI 2)).toUInt32 &&& Int32.toUInt32 31)).toInt32) &&& (nI 858993459))) + ((((((a0 - ((((a0).toUInt32 >>> (((nI 1)).toUInt32 &&& Int32.toUInt32 31)).toInt32) &&& (nI 1431655765))) &&& (nI 858993459)) + (((((a0 - ((((a0).toUInt32 >>> (((nI 1)).toUInt32 &&& Int32.toUInt32 31)).toInt32) &&& (nI 1431655765)))).toUInt32 >>> (((nI 2)).toUInt32 &&& Int32.toUInt32 31)).toInt32) &&& (nI 858993459)))).toUInt32 >>> (((nI 4)).toUInt32 &&& Int32.toUInt32 31)).toInt32)) &&& (nI 252645135)) + ((((((((a0 - ((((a0).toUInt32 >>> (((nI 1)).toUInt32 &&& Int32.toUInt32 31)).toInt32) &&& (nI 1431655765))) &&& (nI 858993459)) + (((((a0 - ((((a0).toUInt32 >>> (((nI 1)).toUInt32 &&& Int32.toUInt32 31)).toInt32) &&& (nI 1431655765)))).toUInt32 >>> (((nI 2)).toUInt32 &&& Int32.toUInt32 31)).toInt32) &&& (nI 858993459))) + ((((((a0 - ((((a0).toUInt32 >>> (((nI 1)).toUInt32 &&& Int32.toUInt32 31)).toInt32) &&& (nI 1431655765))) &&& (nI 858993459)) + (((((a0 - ((((a0).toUInt32 >>> (((nI 1)).toUInt32 &&& Int32.toUInt32 31)).toInt32) &&& (nI 1431655765)))).toUInt32 >>> (((nI 2)).toUInt32 &&& Int32.toUInt32 31)).toInt32) &&& (nI 858993459)))).toUInt32 >>> (((nI 4)).toUInt32 &&& Int32.toUInt32 31)).toInt32)) &&& (nI 252645135))).toUInt32 >>> (((nI 8)).toUInt32 &&& Int32.toUInt32 31)).toInt32))).toUInt32 >>> (((nI 16)).toUInt32 &&& Int32.toUInt32 31)).toInt32)))], [.int ((((((((a0 - ((((a0).toUInt32 >>> (((nI 1)).toUInt32 &&& Int32.toUInt32 31)).toInt32) &&& (nI 1431655765))) &&& (nI 858993459)) + (((((a0 - ((((a0).toUInt32 >>> (((nI 1)).toUInt32 &&& Int32.toUInt32 31)).toInt32) &&& (nI 1431655765)))).toUInt32 >>> (((nI 2)).toUInt32 &&& Int32.toUInt32 31)).toInt32) &&& (nI 858993459))) + ((((((a0 - ((((a0).toUInt32 >>> (((nI 1)).toUInt32 &&& Int32.toUInt32 31)).toInt32) &&& (nI 1431655765))) &&& (nI 858993459)) + (((((a0 - ((((a0).toUInt32 >>> (((nI 1)).toUInt32 &&& Int32.toUInt32 31)).toInt32) &&& (nI 1431655765)))).toUInt32 >>> (((nI 2)).toUInt32 &&& Int32.toUInt32 31)).toInt32) &&& (nI 858993459)))).toUInt32 >>> (((nI 4)).toUInt32 &&& Int32.toUInt32 31)).toInt32)) &&& (nI 252645135)) + ((((((((a0 - ((((a0).toUInt32 >>> (((nI 1)).toUInt32 &&& Int32.toUInt32 31)).toInt32) &&& (nI 1431655765))) &&& (nI 858993459)) + (((((a0 - ((((a0).toUInt32 >>> (((nI 1)).toUInt32 &&& Int32.toUInt32 31)).toInt32) &&& (nI 1431655765)))).toUInt32 >>> (((nI 2)).toUInt32 &&& Int32.toUInt32 31)).toInt32) &&& (nI 858993459))) + ((((((a0 - ((((a0).toUInt32 >>> (((nI 1)).toUInt32 &&& Int32.toUInt32 31)).toInt32) &&& (nI 1431655765))) &&& (nI 858993459)) + (((((a0 - ((((a0).toUInt32 >>> (((nI 1)).toUInt32 &&& Int32.toUInt32 31)).toInt32) &&& (nI 1431655765)))).toUInt32 >>> (((nI 2)).toUInt32 &&& Int32.toUInt32 31)).toInt32) &&& (nI 858993459)))).toUInt32 >>> (((nI 4)).toUInt32 &&& Int32.toUInt32 31)).toInt32)) &&& (nI 252645135))).toUInt32 >>> (((nI 8)).toUInt32 &&& Int32.toUInt32 31)).toInt32)) + (((((((((a0 - ((((a0).toUInt32 >>> (((nI 1)).toUInt32 &&& Int32.toUInt32 31)).toInt32) &&& (nI 1431655765))) &&& (nI 858993459)) + (((((a0 - ((((a0).toUInt32 >>> (((nI 1)).toUInt32 &&& Int32.toUInt32 31)).toInt32) &&& (nI 1431655765)))).toUInt32 >>> (((nI 2)).toUInt32 &&& Int32.toUInt32 31)).toInt32) &&& (nI 858993459))) + ((((((a0 - ((((a0).toUInt32 >>> (((nI 1)).toUInt32 &&& Int32.toUInt32 31)).toInt32) &&& (nI 1431655765))) &&& (nI 858993459)) + (((((a0 - ((((a0).toUInt32 >>> (((nI 1)).toUInt32 &&& Int32.toUInt32 31)).toInt32) &&& (nI 1431655765)))).toUInt32 >>> (((nI 2)).toUInt32 &&& Int32.toUInt32 31)).toInt32) &&& (nI 858993459)))).toUInt32 >>> (((nI 4)).toUInt32 &&& Int32.toUInt32 31)).toInt32)) &&& (nI 252645135)) + ((((((((a0 - ((((a0).toUInt32 >>> (((nI 1)).toUInt32 &&& Int32.toUInt32 31)).toInt32) &&& (nI 1431655765))) &&& (nI 858993459)) + (((((a0 - ((((a0).toUInt32 >>> (((nI 1)).toUInt32 &&& Int32.toUInt32 31)).toInt32) &&& (nI 1431655765)))).toUInt32 >>> (((nI 2)).toUInt32 &&& Int32.toUInt32 31)).toInt32) &&& (nI 858993459))) + ((((((a0 - ((((a0).toUInt32 >>> (((nI 1)).toUInt32 &&& Int32.toUInt32 31)).toInt32) &&& (nI 1431655765))) &&& (nI 858993459)) + (((((a0 - ((((a0).toUInt32 >>> (((nI 1)).toUInt32 &&& Int32.toUInt32 31)).toInt32) &&& (nI 1431655765)))).toUInt32 >>> (((nI 2)).toUInt32 &&& Int32.toUInt32 31)).toInt32) &&& (nI 858993459)))).toUInt32 >>> (((nI 4)).toUInt32 &&& Int32.toUInt32 31)).toInt32)) &&& (nI 252645135))).toUInt32 >>> (((nI 8)).toUInt32 &&& Int32.toUInt32 31)).toInt32))).toUInt32 >>> (((nI 16)).toUInt32 &&& Int32.toUInt32 31)).toInt32)) &&& (nI 63))], D, E)) rfl ?_
  subst h
  exact ev_ret hq rfl rfl ⟨rfl, rfl, rfl⟩
