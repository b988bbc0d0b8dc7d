/-! ===== pictures of the methods and the rows that tie them to their frames, printed by a program of mine ===== -/
def g_People_copyOf_68_24 (D : mx_D) : mx_D := (sD (cD (cD (cD (cD (cD (cD D 25 69 0 0 8) 26 70 0 0 8) 27 71 0 0 8) 28 72 0 0 8) 29 73 0 0 8) 30 74 0 0 8) 68 6 ((cD (cD (cD (cD (cD (cD D 25 69 0 0 8) 26 70 0 0 8) 27 71 0 0 8) 28 72 0 0 8) 29 73 0 0 8) 30 74 0 0 8) 24 6))
theorem t_People_copyOf_68_24 (X : ev_X) (d : Nat) (hd : 1 ≤ d + 1) (E : mx_E) (D : mx_D) (v : mx_D) (h : g_People_copyOf_68_24 D = v) : ev X (d + 1) 56 (0, [some (.ref 68), some (.ref 24)], [], D, E) (qR none v E) := by
  have hq : kq_m 56 = some kq_q56 := rfl
  unfold g_People_copyOf_68_24 at h
  refine gv_n hq 52 (S' := (98, [some (.ref 68), some (.ref 24)], [], (sD (cD (cD (cD (cD (cD (cD D 25 69 0 0 8) 26 70 0 0 8) 27 71 0 0 8) 28 72 0 0 8) 29 73 0 0 8) 30 74 0 0 8) 68 6 ((cD (cD (cD (cD (cD (cD D 25 69 0 0 8) 26 70 0 0 8) 27 71 0 0 8) 28 72 0 0 8) 29 73 0 0 8) 30 74 0 0 8) 24 6)), E)) rfl ?_
  subst h
  exact ev_ret hq rfl rfl ⟨rfl, rfl, rfl⟩
def g_Church_copyOf_63_19 (D : mx_D) : Option (mx_D) := (zk ((sD (sD (sD D 63 0 (D 19 0)) 63 1 ((sD D 63 0 (D 19 0)) 19 1)) 63 2 ((sD (sD D 63 0 (D 19 0)) 63 1 ((sD D 63 0 (D 19 0)) 19 1)) 19 2)) 19 3) (some (cD (cD (sD (cD (sD (g_People_copyOf_68_24 (cD (cD (cD (cD (sD (sD (sD (sD (sD D 63 0 (D 19 0)) 63 1 ((sD D 63 0 (D 19 0)) 19 1)) 63 2 ((sD (sD D 63 0 (D 19 0)) 63 1 ((sD D 63 0 (D 19 0)) 19 1)) 19 2)) 63 3 ((sD (sD (sD D 63 0 (D 19 0)) 63 1 ((sD D 63 0 (D 19 0)) 19 1)) 63 2 ((sD (sD D 63 0 (D 19 0)) 63 1 ((sD D 63 0 (D 19 0)) 19 1)) 19 2)) 19 3)) 63 4 ((sD (sD (sD (sD D 63 0 (D 19 0)) 63 1 ((sD D 63 0 (D 19 0)) 19 1)) 63 2 ((sD (sD D 63 0 (D 19 0)) 63 1 ((sD D 63 0 (D 19 0)) 19 1)) 19 2)) 63 3 ((sD (sD (sD D 63 0 (D 19 0)) 63 1 ((sD D 63 0 (D 19 0)) 19 1)) 63 2 ((sD (sD D 63 0 (D 19 0)) 63 1 ((sD D 63 0 (D 19 0)) 19 1)) 19 2)) 19 3)) 19 4)) 20 64 0 0 4) 21 65 0 0 4) 22 66 0 0 4) 23 67 0 0 20)) 63 10 ((g_People_copyOf_68_24 (cD (cD (cD (cD (sD (sD (sD (sD (sD D 63 0 (D 19 0)) 63 1 ((sD D 63 0 (D 19 0)) 19 1)) 63 2 ((sD (sD D 63 0 (D 19 0)) 63 1 ((sD D 63 0 (D 19 0)) 19 1)) 19 2)) 63 3 ((sD (sD (sD D 63 0 (D 19 0)) 63 1 ((sD D 63 0 (D 19 0)) 19 1)) 63 2 ((sD (sD D 63 0 (D 19 0)) 63 1 ((sD D 63 0 (D 19 0)) 19 1)) 19 2)) 19 3)) 63 4 ((sD (sD (sD (sD D 63 0 (D 19 0)) 63 1 ((sD D 63 0 (D 19 0)) 19 1)) 63 2 ((sD (sD D 63 0 (D 19 0)) 63 1 ((sD D 63 0 (D 19 0)) 19 1)) 19 2)) 63 3 ((sD (sD (sD D 63 0 (D 19 0)) 63 1 ((sD D 63 0 (D 19 0)) 19 1)) 63 2 ((sD (sD D 63 0 (D 19 0)) 63 1 ((sD D 63 0 (D 19 0)) 19 1)) 19 2)) 19 3)) 19 4)) 20 64 0 0 4) 21 65 0 0 4) 22 66 0 0 4) 23 67 0 0 20)) 19 10)) 31 75 0 0 8) 63 12 ((cD (sD (g_People_copyOf_68_24 (cD (cD (cD (cD (sD (sD (sD (sD (sD D 63 0 (D 19 0)) 63 1 ((sD D 63 0 (D 19 0)) 19 1)) 63 2 ((sD (sD D 63 0 (D 19 0)) 63 1 ((sD D 63 0 (D 19 0)) 19 1)) 19 2)) 63 3 ((sD (sD (sD D 63 0 (D 19 0)) 63 1 ((sD D 63 0 (D 19 0)) 19 1)) 63 2 ((sD (sD D 63 0 (D 19 0)) 63 1 ((sD D 63 0 (D 19 0)) 19 1)) 19 2)) 19 3)) 63 4 ((sD (sD (sD (sD D 63 0 (D 19 0)) 63 1 ((sD D 63 0 (D 19 0)) 19 1)) 63 2 ((sD (sD D 63 0 (D 19 0)) 63 1 ((sD D 63 0 (D 19 0)) 19 1)) 19 2)) 63 3 ((sD (sD (sD D 63 0 (D 19 0)) 63 1 ((sD D 63 0 (D 19 0)) 19 1)) 63 2 ((sD (sD D 63 0 (D 19 0)) 63 1 ((sD D 63 0 (D 19 0)) 19 1)) 19 2)) 19 3)) 19 4)) 20 64 0 0 4) 21 65 0 0 4) 22 66 0 0 4) 23 67 0 0 20)) 63 10 ((g_People_copyOf_68_24 (cD (cD (cD (cD (sD (sD (sD (sD (sD D 63 0 (D 19 0)) 63 1 ((sD D 63 0 (D 19 0)) 19 1)) 63 2 ((sD (sD D 63 0 (D 19 0)) 63 1 ((sD D 63 0 (D 19 0)) 19 1)) 19 2)) 63 3 ((sD (sD (sD D 63 0 (D 19 0)) 63 1 ((sD D 63 0 (D 19 0)) 19 1)) 63 2 ((sD (sD D 63 0 (D 19 0)) 63 1 ((sD D 63 0 (D 19 0)) 19 1)) 19 2)) 19 3)) 63 4 ((sD (sD (sD (sD D 63 0 (D 19 0)) 63 1 ((sD D 63 0 (D 19 0)) 19 1)) 63 2 ((sD (sD D 63 0 (D 19 0)) 63 1 ((sD D 63 0 (D 19 0)) 19 1)) 19 2)) 63 3 ((sD (sD (sD D 63 0 (D 19 0)) 63 1 ((sD D 63 0 (D 19 0)) 19 1)) 63 2 ((sD (sD D 63 0 (D 19 0)) 63 1 ((sD D 63 0 (D 19 0)) 19 1)) 19 2)) 19 3)) 19 4)) 20 64 0 0 4) 21 65 0 0 4) 22 66 0 0 4) 23 67 0 0 20)) 19 10)) 31 75 0 0 8) 19 12)) 32 76 0 0 5) 33 77 0 0 5)))
theorem t_Church_copyOf_63_19 (X : ev_X) (d : Nat) (hd : 2 ≤ d + 1) (E : mx_E) (D : mx_D) (v : mx_D) (h : g_Church_copyOf_63_19 D = some v) : ev X (d + 1) 15 (0, [some (.ref 63), some (.ref 19)], [], D, E) (qR none v E) := by
  have hq : kq_m 15 = some kq_q15 := rfl
  unfold g_Church_copyOf_63_19 at h
  refine gv_n hq 15 (S' := (29, [some (.ref 63), some (.ref 19)], [.int ((sD (sD (sD D 63 0 (D 19 0)) 63 1 ((sD D 63 0 (D 19 0)) 19 1)) 63 2 ((sD (sD D 63 0 (D 19 0)) 63 1 ((sD D 63 0 (D 19 0)) 19 1)) 19 2)) 19 3), .ref 63], (sD (sD (sD D 63 0 (D 19 0)) 63 1 ((sD D 63 0 (D 19 0)) 19 1)) 63 2 ((sD (sD D 63 0 (D 19 0)) 63 1 ((sD D 63 0 (D 19 0)) 19 1)) 19 2)), E)) rfl ?_
  refine gv_zp hq rfl h (S' := (32, [some (.ref 63), some (.ref 19)], [], (sD (sD (sD (sD D 63 0 (D 19 0)) 63 1 ((sD D 63 0 (D 19 0)) 19 1)) 63 2 ((sD (sD D 63 0 (D 19 0)) 63 1 ((sD D 63 0 (D 19 0)) 19 1)) 19 2)) 63 3 ((sD (sD (sD D 63 0 (D 19 0)) 63 1 ((sD D 63 0 (D 19 0)) 19 1)) 63 2 ((sD (sD D 63 0 (D 19 0)) 63 1 ((sD D 63 0 (D 19 0)) 19 1)) 19 2)) 19 3)), E)) rfl (fun h => ?_)
  refine gv_n hq 40 (S' := (105, [some (.ref 63), some (.ref 19)], [.ref 24, .ref 68], (cD (cD (cD (cD (sD (sD (sD (sD (sD D 63 0 (D 19 0)) 63 1 ((sD D 63 0 (D 19 0)) 19 1)) 63 2 ((sD (sD D 63 0 (D 19 0)) 63 1 ((sD D 63 0 (D 19 0)) 19 1)) 19 2)) 63 3 ((sD (sD (sD D 63 0 (D 19 0)) 63 1 ((sD D 63 0 (D 19 0)) 19 1)) 63 2 ((sD (sD D 63 0 (D 19 0)) 63 1 ((sD D 63 0 (D 19 0)) 19 1)) 19 2)) 19 3)) 63 4 ((sD (sD (sD (sD D 63 0 (D 19 0)) 63 1 ((sD D 63 0 (D 19 0)) 19 1)) 63 2 ((sD (sD D 63 0 (D 19 0)) 63 1 ((sD D 63 0 (D 19 0)) 19 1)) 19 2)) 63 3 ((sD (sD (sD D 63 0 (D 19 0)) 63 1 ((sD D 63 0 (D 19 0)) 19 1)) 63 2 ((sD (sD D 63 0 (D 19 0)) 63 1 ((sD D 63 0 (D 19 0)) 19 1)) 19 2)) 19 3)) 19 4)) 20 64 0 0 4) 21 65 0 0 4) 22 66 0 0 4) 23 67 0 0 20), E)) rfl ?_
  refine gv_d hq rfl rfl rfl rfl rfl (gv_dd (by omega) (t_People_copyOf_68_24 X (d - 1) (by omega) E _ _ rfl)) (S' := (108, [some (.ref 63), some (.ref 19)], [], (g_People_copyOf_68_24 (cD (cD (cD (cD (sD (sD (sD (sD (sD D 63 0 (D 19 0)) 63 1 ((sD D 63 0 (D 19 0)) 19 1)) 63 2 ((sD (sD D 63 0 (D 19 0)) 63 1 ((sD D 63 0 (D 19 0)) 19 1)) 19 2)) 63 3 ((sD (sD (sD D 63 0 (D 19 0)) 63 1 ((sD D 63 0 (D 19 0)) 19 1)) 63 2 ((sD (sD D 63 0 (D 19 0)) 63 1 ((sD D 63 0 (D 19 0)) 19 1)) 19 2)) 19 3)) 63 4 ((sD (sD (sD (sD D 63 0 (D 19 0)) 63 1 ((sD D 63 0 (D 19 0)) 19 1)) 63 2 ((sD (sD D 63 0 (D 19 0)) 63 1 ((sD D 63 0 (D 19 0)) 19 1)) 19 2)) 63 3 ((sD (sD (sD D 63 0 (D 19 0)) 63 1 ((sD D 63 0 (D 19 0)) 19 1)) 63 2 ((sD (sD D 63 0 (D 19 0)) 63 1 ((sD D 63 0 (D 19 0)) 19 1)) 19 2)) 19 3)) 19 4)) 20 64 0 0 4) 21 65 0 0 4) 22 66 0 0 4) 23 67 0 0 20)), E)) rfl ?_
  refine gv_n hq 32 (S' := (167, [some (.ref 63), some (.ref 19)], [], (cD (cD (sD (cD (sD (g_People_copyOf_68_24 (cD (cD (cD (cD (sD (sD (sD (sD (sD D 63 0 (D 19 0)) 63 1 ((sD D 63 0 (D 19 0)) 19 1)) 63 2 ((sD (sD D 63 0 (D 19 0)) 63 1 ((sD D 63 0 (D 19 0)) 19 1)) 19 2)) 63 3 ((sD (sD (sD D 63 0 (D 19 0)) 63 1 ((sD D 63 0 (D 19 0)) 19 1)) 63 2 ((sD (sD D 63 0 (D 19 0)) 63 1 ((sD D 63 0 (D 19 0)) 19 1)) 19 2)) 19 3)) 63 4 ((sD (sD (sD (sD D 63 0 (D 19 0)) 63 1 ((sD D 63 0 (D 19 0)) 19 1)) 63 2 ((sD (sD D 63 0 (D 19 0)) 63 1 ((sD D 63 0 (D 19 0)) 19 1)) 19 2)) 63 3 ((sD (sD (sD D 63 0 (D 19 0)) 63 1 ((sD D 63 0 (D 19 0)) 19 1)) 63 2 ((sD (sD D 63 0 (D 19 0)) 63 1 ((sD D 63 0 (D 19 0)) 19 1)) 19 2)) 19 3)) 19 4)) 20 64 0 0 4) 21 65 0 0 4) 22 66 0 0 4) 23 67 0 0 20)) 63 10 ((g_People_copyOf_68_24 (cD (cD (cD (cD (sD (sD (sD (sD (sD D 63 0 (D 19 0)) 63 1 ((sD D 63 0 (D 19 0)) 19 1)) 63 2 ((sD (sD D 63 0 (D 19 0)) 63 1 ((sD D 63 0 (D 19 0)) 19 1)) 19 2)) 63 3 ((sD (sD (sD D 63 0 (D 19 0)) 63 1 ((sD D 63 0 (D 19 0)) 19 1)) 63 2 ((sD (sD D 63 0 (D 19 0)) 63 1 ((sD D 63 0 (D 19 0)) 19 1)) 19 2)) 19 3)) 63 4 ((sD (sD (sD (sD D 63 0 (D 19 0)) 63 1 ((sD D 63 0 (D 19 0)) 19 1)) 63 2 ((sD (sD D 63 0 (D 19 0)) 63 1 ((sD D 63 0 (D 19 0)) 19 1)) 19 2)) 63 3 ((sD (sD (sD D 63 0 (D 19 0)) 63 1 ((sD D 63 0 (D 19 0)) 19 1)) 63 2 ((sD (sD D 63 0 (D 19 0)) 63 1 ((sD D 63 0 (D 19 0)) 19 1)) 19 2)) 19 3)) 19 4)) 20 64 0 0 4) 21 65 0 0 4) 22 66 0 0 4) 23 67 0 0 20)) 19 10)) 31 75 0 0 8) 63 12 ((cD (sD (g_People_copyOf_68_24 (cD (cD (cD (cD (sD (sD (sD (sD (sD D 63 0 (D 19 0)) 63 1 ((sD D 63 0 (D 19 0)) 19 1)) 63 2 ((sD (sD D 63 0 (D 19 0)) 63 1 ((sD D 63 0 (D 19 0)) 19 1)) 19 2)) 63 3 ((sD (sD (sD D 63 0 (D 19 0)) 63 1 ((sD D 63 0 (D 19 0)) 19 1)) 63 2 ((sD (sD D 63 0 (D 19 0)) 63 1 ((sD D 63 0 (D 19 0)) 19 1)) 19 2)) 19 3)) 63 4 ((sD (sD (sD (sD D 63 0 (D 19 0)) 63 1 ((sD D 63 0 (D 19 0)) 19 1)) 63 2 ((sD (sD D 63 0 (D 19 0)) 63 1 ((sD D 63 0 (D 19 0)) 19 1)) 19 2)) 63 3 ((sD (sD (sD D 63 0 (D 19 0)) 63 1 ((sD D 63 0 (D 19 0)) 19 1)) 63 2 ((sD (sD D 63 0 (D 19 0)) 63 1 ((sD D 63 0 (D 19 0)) 19 1)) 19 2)) 19 3)) 19 4)) 20 64 0 0 4) 21 65 0 0 4) 22 66 0 0 4) 23 67 0 0 20)) 63 10 ((g_People_copyOf_68_24 (cD (cD (cD (cD (sD (sD (sD (sD (sD D 63 0 (D 19 0)) 63 1 ((sD D 63 0 (D 19 0)) 19 1)) 63 2 ((sD (sD D 63 0 (D 19 0)) 63 1 ((sD D 63 0 (D 19 0)) 19 1)) 19 2)) 63 3 ((sD (sD (sD D 63 0 (D 19 0)) 63 1 ((sD D 63 0 (D 19 0)) 19 1)) 63 2 ((sD (sD D 63 0 (D 19 0)) 63 1 ((sD D 63 0 (D 19 0)) 19 1)) 19 2)) 19 3)) 63 4 ((sD (sD (sD (sD D 63 0 (D 19 0)) 63 1 ((sD D 63 0 (D 19 0)) 19 1)) 63 2 ((sD (sD D 63 0 (D 19 0)) 63 1 ((sD D 63 0 (D 19 0)) 19 1)) 19 2)) 63 3 ((sD (sD (sD D 63 0 (D 19 0)) 63 1 ((sD D 63 0 (D 19 0)) 19 1)) 63 2 ((sD (sD D 63 0 (D 19 0)) 63 1 ((sD D 63 0 (D 19 0)) 19 1)) 19 2)) 19 3)) 19 4)) 20 64 0 0 4) 21 65 0 0 4) 22 66 0 0 4) 23 67 0 0 20)) 19 10)) 31 75 0 0 8) 19 12)) 32 76 0 0 5) 33 77 0 0 5), E)) rfl ?_
  cases h
  exact ev_ret hq rfl rfl ⟨rfl, rfl, rfl⟩
def g_People_copyOf_83_24 (D : mx_D) : mx_D := (sD (cD (cD (cD (cD (cD (cD D 25 84 0 0 8) 26 85 0 0 8) 27 86 0 0 8) 28 87 0 0 8) 29 88 0 0 8) 30 89 0 0 8) 83 6 ((cD (cD (cD (cD (cD (cD D 25 84 0 0 8) 26 85 0 0 8) 27 86 0 0 8) 28 87 0 0 8) 29 88 0 0 8) 30 89 0 0 8) 24 6))
theorem t_People_copyOf_83_24 (X : ev_X) (d : Nat) (hd : 1 ≤ d + 1) (E : mx_E) (D : mx_D) (v : mx_D) (h : g_People_copyOf_83_24 D = v) : ev X (d + 1) 56 (0, [some (.ref 83), some (.ref 24)], [], D, E) (qR none v E) := by
  have hq : kq_m 56 = some kq_q56 := rfl
  unfold g_People_copyOf_83_24 at h
  refine gv_n hq 52 (S' := (98, [some (.ref 83), some (.ref 24)], [], (sD (cD (cD (cD (cD (cD (cD D 25 84 0 0 8) 26 85 0 0 8) 27 86 0 0 8) 28 87 0 0 8) 29 88 0 0 8) 30 89 0 0 8) 83 6 ((cD (cD (cD (cD (cD (cD D 25 84 0 0 8) 26 85 0 0 8) 27 86 0 0 8) 28 87 0 0 8) 29 88 0 0 8) 30 89 0 0 8) 24 6)), E)) rfl ?_
  subst h
  exact ev_ret hq rfl rfl ⟨rfl, rfl, rfl⟩
def g_Church_copyOf_78_19 (D : mx_D) : Option (mx_D) := (zk ((sD (sD (sD D 78 0 (D 19 0)) 78 1 ((sD D 78 0 (D 19 0)) 19 1)) 78 2 ((sD (sD D 78 0 (D 19 0)) 78 1 ((sD D 78 0 (D 19 0)) 19 1)) 19 2)) 19 3) (some (cD (cD (sD (cD (sD (g_People_copyOf_83_24 (cD (cD (cD (cD (sD (sD (sD (sD (sD D 78 0 (D 19 0)) 78 1 ((sD D 78 0 (D 19 0)) 19 1)) 78 2 ((sD (sD D 78 0 (D 19 0)) 78 1 ((sD D 78 0 (D 19 0)) 19 1)) 19 2)) 78 3 ((sD (sD (sD D 78 0 (D 19 0)) 78 1 ((sD D 78 0 (D 19 0)) 19 1)) 78 2 ((sD (sD D 78 0 (D 19 0)) 78 1 ((sD D 78 0 (D 19 0)) 19 1)) 19 2)) 19 3)) 78 4 ((sD (sD (sD (sD D 78 0 (D 19 0)) 78 1 ((sD D 78 0 (D 19 0)) 19 1)) 78 2 ((sD (sD D 78 0 (D 19 0)) 78 1 ((sD D 78 0 (D 19 0)) 19 1)) 19 2)) 78 3 ((sD (sD (sD D 78 0 (D 19 0)) 78 1 ((sD D 78 0 (D 19 0)) 19 1)) 78 2 ((sD (sD D 78 0 (D 19 0)) 78 1 ((sD D 78 0 (D 19 0)) 19 1)) 19 2)) 19 3)) 19 4)) 20 79 0 0 4) 21 80 0 0 4) 22 81 0 0 4) 23 82 0 0 20)) 78 10 ((g_People_copyOf_83_24 (cD (cD (cD (cD (sD (sD (sD (sD (sD D 78 0 (D 19 0)) 78 1 ((sD D 78 0 (D 19 0)) 19 1)) 78 2 ((sD (sD D 78 0 (D 19 0)) 78 1 ((sD D 78 0 (D 19 0)) 19 1)) 19 2)) 78 3 ((sD (sD (sD D 78 0 (D 19 0)) 78 1 ((sD D 78 0 (D 19 0)) 19 1)) 78 2 ((sD (sD D 78 0 (D 19 0)) 78 1 ((sD D 78 0 (D 19 0)) 19 1)) 19 2)) 19 3)) 78 4 ((sD (sD (sD (sD D 78 0 (D 19 0)) 78 1 ((sD D 78 0 (D 19 0)) 19 1)) 78 2 ((sD (sD D 78 0 (D 19 0)) 78 1 ((sD D 78 0 (D 19 0)) 19 1)) 19 2)) 78 3 ((sD (sD (sD D 78 0 (D 19 0)) 78 1 ((sD D 78 0 (D 19 0)) 19 1)) 78 2 ((sD (sD D 78 0 (D 19 0)) 78 1 ((sD D 78 0 (D 19 0)) 19 1)) 19 2)) 19 3)) 19 4)) 20 79 0 0 4) 21 80 0 0 4) 22 81 0 0 4) 23 82 0 0 20)) 19 10)) 31 90 0 0 8) 78 12 ((cD (sD (g_People_copyOf_83_24 (cD (cD (cD (cD (sD (sD (sD (sD (sD D 78 0 (D 19 0)) 78 1 ((sD D 78 0 (D 19 0)) 19 1)) 78 2 ((sD (sD D 78 0 (D 19 0)) 78 1 ((sD D 78 0 (D 19 0)) 19 1)) 19 2)) 78 3 ((sD (sD (sD D 78 0 (D 19 0)) 78 1 ((sD D 78 0 (D 19 0)) 19 1)) 78 2 ((sD (sD D 78 0 (D 19 0)) 78 1 ((sD D 78 0 (D 19 0)) 19 1)) 19 2)) 19 3)) 78 4 ((sD (sD (sD (sD D 78 0 (D 19 0)) 78 1 ((sD D 78 0 (D 19 0)) 19 1)) 78 2 ((sD (sD D 78 0 (D 19 0)) 78 1 ((sD D 78 0 (D 19 0)) 19 1)) 19 2)) 78 3 ((sD (sD (sD D 78 0 (D 19 0)) 78 1 ((sD D 78 0 (D 19 0)) 19 1)) 78 2 ((sD (sD D 78 0 (D 19 0)) 78 1 ((sD D 78 0 (D 19 0)) 19 1)) 19 2)) 19 3)) 19 4)) 20 79 0 0 4) 21 80 0 0 4) 22 81 0 0 4) 23 82 0 0 20)) 78 10 ((g_People_copyOf_83_24 (cD (cD (cD (cD (sD (sD (sD (sD (sD D 78 0 (D 19 0)) 78 1 ((sD D 78 0 (D 19 0)) 19 1)) 78 2 ((sD (sD D 78 0 (D 19 0)) 78 1 ((sD D 78 0 (D 19 0)) 19 1)) 19 2)) 78 3 ((sD (sD (sD D 78 0 (D 19 0)) 78 1 ((sD D 78 0 (D 19 0)) 19 1)) 78 2 ((sD (sD D 78 0 (D 19 0)) 78 1 ((sD D 78 0 (D 19 0)) 19 1)) 19 2)) 19 3)) 78 4 ((sD (sD (sD (sD D 78 0 (D 19 0)) 78 1 ((sD D 78 0 (D 19 0)) 19 1)) 78 2 ((sD (sD D 78 0 (D 19 0)) 78 1 ((sD D 78 0 (D 19 0)) 19 1)) 19 2)) 78 3 ((sD (sD (sD D 78 0 (D 19 0)) 78 1 ((sD D 78 0 (D 19 0)) 19 1)) 78 2 ((sD (sD D 78 0 (D 19 0)) 78 1 ((sD D 78 0 (D 19 0)) 19 1)) 19 2)) 19 3)) 19 4)) 20 79 0 0 4) 21 80 0 0 4) 22 81 0 0 4) 23 82 0 0 20)) 19 10)) 31 90 0 0 8) 19 12)) 32 91 0 0 5) 33 92 0 0 5)))
theorem t_Church_copyOf_78_19 (X : ev_X) (d : Nat) (hd : 2 ≤ d + 1) (E : mx_E) (D : mx_D) (v : mx_D) (h : g_Church_copyOf_78_19 D = some v) : ev X (d + 1) 15 (0, [some (.ref 78), some (.ref 19)], [], D, E) (qR none v E) := by
  have hq : kq_m 15 = some kq_q15 := rfl
  unfold g_Church_copyOf_78_19 at h
  refine gv_n hq 15 (S' := (29, [some (.ref 78), some (.ref 19)], [.int ((sD (sD (sD D 78 0 (D 19 0)) 78 1 ((sD D 78 0 (D 19 0)) 19 1)) 78 2 ((sD (sD D 78 0 (D 19 0)) 78 1 ((sD D 78 0 (D 19 0)) 19 1)) 19 2)) 19 3), .ref 78], (sD (sD (sD D 78 0 (D 19 0)) 78 1 ((sD D 78 0 (D 19 0)) 19 1)) 78 2 ((sD (sD D 78 0 (D 19 0)) 78 1 ((sD D 78 0 (D 19 0)) 19 1)) 19 2)), E)) rfl ?_
  refine gv_zp hq rfl h (S' := (32, [some (.ref 78), some (.ref 19)], [], (sD (sD (sD (sD D 78 0 (D 19 0)) 78 1 ((sD D 78 0 (D 19 0)) 19 1)) 78 2 ((sD (sD D 78 0 (D 19 0)) 78 1 ((sD D 78 0 (D 19 0)) 19 1)) 19 2)) 78 3 ((sD (sD (sD D 78 0 (D 19 0)) 78 1 ((sD D 78 0 (D 19 0)) 19 1)) 78 2 ((sD (sD D 78 0 (D 19 0)) 78 1 ((sD D 78 0 (D 19 0)) 19 1)) 19 2)) 19 3)), E)) rfl (fun h => ?_)
  refine gv_n hq 40 (S' := (105, [some (.ref 78), some (.ref 19)], [.ref 24, .ref 83], (cD (cD (cD (cD (sD (sD (sD (sD (sD D 78 0 (D 19 0)) 78 1 ((sD D 78 0 (D 19 0)) 19 1)) 78 2 ((sD (sD D 78 0 (D 19 0)) 78 1 ((sD D 78 0 (D 19 0)) 19 1)) 19 2)) 78 3 ((sD (sD (sD D 78 0 (D 19 0)) 78 1 ((sD D 78 0 (D 19 0)) 19 1)) 78 2 ((sD (sD D 78 0 (D 19 0)) 78 1 ((sD D 78 0 (D 19 0)) 19 1)) 19 2)) 19 3)) 78 4 ((sD (sD (sD (sD D 78 0 (D 19 0)) 78 1 ((sD D 78 0 (D 19 0)) 19 1)) 78 2 ((sD (sD D 78 0 (D 19 0)) 78 1 ((sD D 78 0 (D 19 0)) 19 1)) 19 2)) 78 3 ((sD (sD (sD D 78 0 (D 19 0)) 78 1 ((sD D 78 0 (D 19 0)) 19 1)) 78 2 ((sD (sD D 78 0 (D 19 0)) 78 1 ((sD D 78 0 (D 19 0)) 19 1)) 19 2)) 19 3)) 19 4)) 20 79 0 0 4) 21 80 0 0 4) 22 81 0 0 4) 23 82 0 0 20), E)) rfl ?_
  refine gv_d hq rfl rfl rfl rfl rfl (gv_dd (by omega) (t_People_copyOf_83_24 X (d - 1) (by omega) E _ _ rfl)) (S' := (108, [some (.ref 78), some (.ref 19)], [], (g_People_copyOf_83_24 (cD (cD (cD (cD (sD (sD (sD (sD (sD D 78 0 (D 19 0)) 78 1 ((sD D 78 0 (D 19 0)) 19 1)) 78 2 ((sD (sD D 78 0 (D 19 0)) 78 1 ((sD D 78 0 (D 19 0)) 19 1)) 19 2)) 78 3 ((sD (sD (sD D 78 0 (D 19 0)) 78 1 ((sD D 78 0 (D 19 0)) 19 1)) 78 2 ((sD (sD D 78 0 (D 19 0)) 78 1 ((sD D 78 0 (D 19 0)) 19 1)) 19 2)) 19 3)) 78 4 ((sD (sD (sD (sD D 78 0 (D 19 0)) 78 1 ((sD D 78 0 (D 19 0)) 19 1)) 78 2 ((sD (sD D 78 0 (D 19 0)) 78 1 ((sD D 78 0 (D 19 0)) 19 1)) 19 2)) 78 3 ((sD (sD (sD D 78 0 (D 19 0)) 78 1 ((sD D 78 0 (D 19 0)) 19 1)) 78 2 ((sD (sD D 78 0 (D 19 0)) 78 1 ((sD D 78 0 (D 19 0)) 19 1)) 19 2)) 19 3)) 19 4)) 20 79 0 0 4) 21 80 0 0 4) 22 81 0 0 4) 23 82 0 0 20)), E)) rfl ?_
  refine gv_n hq 32 (S' := (167, [some (.ref 78), some (.ref 19)], [], (cD (cD (sD (cD (sD (g_People_copyOf_83_24 (cD (cD (cD (cD (sD (sD (sD (sD (sD D 78 0 (D 19 0)) 78 1 ((sD D 78 0 (D 19 0)) 19 1)) 78 2 ((sD (sD D 78 0 (D 19 0)) 78 1 ((sD D 78 0 (D 19 0)) 19 1)) 19 2)) 78 3 ((sD (sD (sD D 78 0 (D 19 0)) 78 1 ((sD D 78 0 (D 19 0)) 19 1)) 78 2 ((sD (sD D 78 0 (D 19 0)) 78 1 ((sD D 78 0 (D 19 0)) 19 1)) 19 2)) 19 3)) 78 4 ((sD (sD (sD (sD D 78 0 (D 19 0)) 78 1 ((sD D 78 0 (D 19 0)) 19 1)) 78 2 ((sD (sD D 78 0 (D 19 0)) 78 1 ((sD D 78 0 (D 19 0)) 19 1)) 19 2)) 78 3 ((sD (sD (sD D 78 0 (D 19 0)) 78 1 ((sD D 78 0 (D 19 0)) 19 1)) 78 2 ((sD (sD D 78 0 (D 19 0)) 78 1 ((sD D 78 0 (D 19 0)) 19 1)) 19 2)) 19 3)) 19 4)) 20 79 0 0 4) 21 80 0 0 4) 22 81 0 0 4) 23 82 0 0 20)) 78 10 ((g_People_copyOf_83_24 (cD (cD (cD (cD (sD (sD (sD (sD (sD D 78 0 (D 19 0)) 78 1 ((sD D 78 0 (D 19 0)) 19 1)) 78 2 ((sD (sD D 78 0 (D 19 0)) 78 1 ((sD D 78 0 (D 19 0)) 19 1)) 19 2)) 78 3 ((sD (sD (sD D 78 0 (D 19 0)) 78 1 ((sD D 78 0 (D 19 0)) 19 1)) 78 2 ((sD (sD D 78 0 (D 19 0)) 78 1 ((sD D 78 0 (D 19 0)) 19 1)) 19 2)) 19 3)) 78 4 ((sD (sD (sD (sD D 78 0 (D 19 0)) 78 1 ((sD D 78 0 (D 19 0)) 19 1)) 78 2 ((sD (sD D 78 0 (D 19 0)) 78 1 ((sD D 78 0 (D 19 0)) 19 1)) 19 2)) 78 3 ((sD (sD (sD D 78 0 (D 19 0)) 78 1 ((sD D 78 0 (D 19 0)) 19 1)) 78 2 ((sD (sD D 78 0 (D 19 0)) 78 1 ((sD D 78 0 (D 19 0)) 19 1)) 19 2)) 19 3)) 19 4)) 20 79 0 0 4) 21 80 0 0 4) 22 81 0 0 4) 23 82 0 0 20)) 19 10)) 31 90 0 0 8) 78 12 ((cD (sD (g_People_copyOf_83_24 (cD (cD (cD (cD (sD (sD (sD (sD (sD D 78 0 (D 19 0)) 78 1 ((sD D 78 0 (D 19 0)) 19 1)) 78 2 ((sD (sD D 78 0 (D 19 0)) 78 1 ((sD D 78 0 (D 19 0)) 19 1)) 19 2)) 78 3 ((sD (sD (sD D 78 0 (D 19 0)) 78 1 ((sD D 78 0 (D 19 0)) 19 1)) 78 2 ((sD (sD D 78 0 (D 19 0)) 78 1 ((sD D 78 0 (D 19 0)) 19 1)) 19 2)) 19 3)) 78 4 ((sD (sD (sD (sD D 78 0 (D 19 0)) 78 1 ((sD D 78 0 (D 19 0)) 19 1)) 78 2 ((sD (sD D 78 0 (D 19 0)) 78 1 ((sD D 78 0 (D 19 0)) 19 1)) 19 2)) 78 3 ((sD (sD (sD D 78 0 (D 19 0)) 78 1 ((sD D 78 0 (D 19 0)) 19 1)) 78 2 ((sD (sD D 78 0 (D 19 0)) 78 1 ((sD D 78 0 (D 19 0)) 19 1)) 19 2)) 19 3)) 19 4)) 20 79 0 0 4) 21 80 0 0 4) 22 81 0 0 4) 23 82 0 0 20)) 78 10 ((g_People_copyOf_83_24 (cD (cD (cD (cD (sD (sD (sD (sD (sD D 78 0 (D 19 0)) 78 1 ((sD D 78 0 (D 19 0)) 19 1)) 78 2 ((sD (sD D 78 0 (D 19 0)) 78 1 ((sD D 78 0 (D 19 0)) 19 1)) 19 2)) 78 3 ((sD (sD (sD D 78 0 (D 19 0)) 78 1 ((sD D 78 0 (D 19 0)) 19 1)) 78 2 ((sD (sD D 78 0 (D 19 0)) 78 1 ((sD D 78 0 (D 19 0)) 19 1)) 19 2)) 19 3)) 78 4 ((sD (sD (sD (sD D 78 0 (D 19 0)) 78 1 ((sD D 78 0 (D 19 0)) 19 1)) 78 2 ((sD (sD D 78 0 (D 19 0)) 78 1 ((sD D 78 0 (D 19 0)) 19 1)) 19 2)) 78 3 ((sD (sD (sD D 78 0 (D 19 0)) 78 1 ((sD D 78 0 (D 19 0)) 19 1)) 78 2 ((sD (sD D 78 0 (D 19 0)) 78 1 ((sD D 78 0 (D 19 0)) 19 1)) 19 2)) 19 3)) 19 4)) 20 79 0 0 4) 21 80 0 0 4) 22 81 0 0 4) 23 82 0 0 20)) 19 10)) 31 90 0 0 8) 19 12)) 32 91 0 0 5) 33 92 0 0 5), E)) rfl ?_
  cases h
  exact ev_ret hq rfl rfl ⟨rfl, rfl, rfl⟩
def g_People_copyOf_98_24 (D : mx_D) : mx_D := (sD (cD (cD (cD (cD (cD (cD D 25 99 0 0 8) 26 100 0 0 8) 27 101 0 0 8) 28 102 0 0 8) 29 103 0 0 8) 30 104 0 0 8) 98 6 ((cD (cD (cD (cD (cD (cD D 25 99 0 0 8) 26 100 0 0 8) 27 101 0 0 8) 28 102 0 0 8) 29 103 0 0 8) 30 104 0 0 8) 24 6))
theorem t_People_copyOf_98_24 (X : ev_X) (d : Nat) (hd : 1 ≤ d + 1) (E : mx_E) (D : mx_D) (v : mx_D) (h : g_People_copyOf_98_24 D = v) : ev X (d + 1) 56 (0, [some (.ref 98), some (.ref 24)], [], D, E) (qR none v E) := by
  have hq : kq_m 56 = some kq_q56 := rfl
  unfold g_People_copyOf_98_24 at h
  refine gv_n hq 52 (S' := (98, [some (.ref 98), some (.ref 24)], [], (sD (cD (cD (cD (cD (cD (cD D 25 99 0 0 8) 26 100 0 0 8) 27 101 0 0 8) 28 102 0 0 8) 29 103 0 0 8) 30 104 0 0 8) 98 6 ((cD (cD (cD (cD (cD (cD D 25 99 0 0 8) 26 100 0 0 8) 27 101 0 0 8) 28 102 0 0 8) 29 103 0 0 8) 30 104 0 0 8) 24 6)), E)) rfl ?_
  subst h
  exact ev_ret hq rfl rfl ⟨rfl, rfl, rfl⟩
def g_Church_copyOf_93_19 (D : mx_D) : Option (mx_D) := (zk ((sD (sD (sD D 93 0 (D 19 0)) 93 1 ((sD D 93 0 (D 19 0)) 19 1)) 93 2 ((sD (sD D 93 0 (D 19 0)) 93 1 ((sD D 93 0 (D 19 0)) 19 1)) 19 2)) 19 3) (some (cD (cD (sD (cD (sD (g_People_copyOf_98_24 (cD (cD (cD (cD (sD (sD (sD (sD (sD D 93 0 (D 19 0)) 93 1 ((sD D 93 0 (D 19 0)) 19 1)) 93 2 ((sD (sD D 93 0 (D 19 0)) 93 1 ((sD D 93 0 (D 19 0)) 19 1)) 19 2)) 93 3 ((sD (sD (sD D 93 0 (D 19 0)) 93 1 ((sD D 93 0 (D 19 0)) 19 1)) 93 2 ((sD (sD D 93 0 (D 19 0)) 93 1 ((sD D 93 0 (D 19 0)) 19 1)) 19 2)) 19 3)) 93 4 ((sD (sD (sD (sD D 93 0 (D 19 0)) 93 1 ((sD D 93 0 (D 19 0)) 19 1)) 93 2 ((sD (sD D 93 0 (D 19 0)) 93 1 ((sD D 93 0 (D 19 0)) 19 1)) 19 2)) 93 3 ((sD (sD (sD D 93 0 (D 19 0)) 93 1 ((sD D 93 0 (D 19 0)) 19 1)) 93 2 ((sD (sD D 93 0 (D 19 0)) 93 1 ((sD D 93 0 (D 19 0)) 19 1)) 19 2)) 19 3)) 19 4)) 20 94 0 0 4) 21 95 0 0 4) 22 96 0 0 4) 23 97 0 0 20)) 93 10 ((g_People_copyOf_98_24 (cD (cD (cD (cD (sD (sD (sD (sD (sD D 93 0 (D 19 0)) 93 1 ((sD D 93 0 (D 19 0)) 19 1)) 93 2 ((sD (sD D 93 0 (D 19 0)) 93 1 ((sD D 93 0 (D 19 0)) 19 1)) 19 2)) 93 3 ((sD (sD (sD D 93 0 (D 19 0)) 93 1 ((sD D 93 0 (D 19 0)) 19 1)) 93 2 ((sD (sD D 93 0 (D 19 0)) 93 1 ((sD D 93 0 (D 19 0)) 19 1)) 19 2)) 19 3)) 93 4 ((sD (sD (sD (sD D 93 0 (D 19 0)) 93 1 ((sD D 93 0 (D 19 0)) 19 1)) 93 2 ((sD (sD D 93 0 (D 19 0)) 93 1 ((sD D 93 0 (D 19 0)) 19 1)) 19 2)) 93 3 ((sD (sD (sD D 93 0 (D 19 0)) 93 1 ((sD D 93 0 (D 19 0)) 19 1)) 93 2 ((sD (sD D 93 0 (D 19 0)) 93 1 ((sD D 93 0 (D 19 0)) 19 1)) 19 2)) 19 3)) 19 4)) 20 94 0 0 4) 21 95 0 0 4) 22 96 0 0 4) 23 97 0 0 20)) 19 10)) 31 105 0 0 8) 93 12 ((cD (sD (g_People_copyOf_98_24 (cD (cD (cD (cD (sD (sD (sD (sD (sD D 93 0 (D 19 0)) 93 1 ((sD D 93 0 (D 19 0)) 19 1)) 93 2 ((sD (sD D 93 0 (D 19 0)) 93 1 ((sD D 93 0 (D 19 0)) 19 1)) 19 2)) 93 3 ((sD (sD (sD D 93 0 (D 19 0)) 93 1 ((sD D 93 0 (D 19 0)) 19 1)) 93 2 ((sD (sD D 93 0 (D 19 0)) 93 1 ((sD D 93 0 (D 19 0)) 19 1)) 19 2)) 19 3)) 93 4 ((sD (sD (sD (sD D 93 0 (D 19 0)) 93 1 ((sD D 93 0 (D 19 0)) 19 1)) 93 2 ((sD (sD D 93 0 (D 19 0)) 93 1 ((sD D 93 0 (D 19 0)) 19 1)) 19 2)) 93 3 ((sD (sD (sD D 93 0 (D 19 0)) 93 1 ((sD D 93 0 (D 19 0)) 19 1)) 93 2 ((sD (sD D 93 0 (D 19 0)) 93 1 ((sD D 93 0 (D 19 0)) 19 1)) 19 2)) 19 3)) 19 4)) 20 94 0 0 4) 21 95 0 0 4) 22 96 0 0 4) 23 97 0 0 20)) 93 10 ((g_People_copyOf_98_24 (cD (cD (cD (cD (sD (sD (sD (sD (sD D 93 0 (D 19 0)) 93 1 ((sD D 93 0 (D 19 0)) 19 1)) 93 2 ((sD (sD D 93 0 (D 19 0)) 93 1 ((sD D 93 0 (D 19 0)) 19 1)) 19 2)) 93 3 ((sD (sD (sD D 93 0 (D 19 0)) 93 1 ((sD D 93 0 (D 19 0)) 19 1)) 93 2 ((sD (sD D 93 0 (D 19 0)) 93 1 ((sD D 93 0 (D 19 0)) 19 1)) 19 2)) 19 3)) 93 4 ((sD (sD (sD (sD D 93 0 (D 19 0)) 93 1 ((sD D 93 0 (D 19 0)) 19 1)) 93 2 ((sD (sD D 93 0 (D 19 0)) 93 1 ((sD D 93 0 (D 19 0)) 19 1)) 19 2)) 93 3 ((sD (sD (sD D 93 0 (D 19 0)) 93 1 ((sD D 93 0 (D 19 0)) 19 1)) 93 2 ((sD (sD D 93 0 (D 19 0)) 93 1 ((sD D 93 0 (D 19 0)) 19 1)) 19 2)) 19 3)) 19 4)) 20 94 0 0 4) 21 95 0 0 4) 22 96 0 0 4) 23 97 0 0 20)) 19 10)) 31 105 0 0 8) 19 12)) 32 106 0 0 5) 33 107 0 0 5)))
theorem t_Church_copyOf_93_19 (X : ev_X) (d : Nat) (hd : 2 ≤ d + 1) (E : mx_E) (D : mx_D) (v : mx_D) (h : g_Church_copyOf_93_19 D = some v) : ev X (d + 1) 15 (0, [some (.ref 93), some (.ref 19)], [], D, E) (qR none v E) := by
  have hq : kq_m 15 = some kq_q15 := rfl
  unfold g_Church_copyOf_93_19 at h
  refine gv_n hq 15 (S' := (29, [some (.ref 93), some (.ref 19)], [.int ((sD (sD (sD D 93 0 (D 19 0)) 93 1 ((sD D 93 0 (D 19 0)) 19 1)) 93 2 ((sD (sD D 93 0 (D 19 0)) 93 1 ((sD D 93 0 (D 19 0)) 19 1)) 19 2)) 19 3), .ref 93], (sD (sD (sD D 93 0 (D 19 0)) 93 1 ((sD D 93 0 (D 19 0)) 19 1)) 93 2 ((sD (sD D 93 0 (D 19 0)) 93 1 ((sD D 93 0 (D 19 0)) 19 1)) 19 2)), E)) rfl ?_
  refine gv_zp hq rfl h (S' := (32, [some (.ref 93), some (.ref 19)], [], (sD (sD (sD (sD D 93 0 (D 19 0)) 93 1 ((sD D 93 0 (D 19 0)) 19 1)) 93 2 ((sD (sD D 93 0 (D 19 0)) 93 1 ((sD D 93 0 (D 19 0)) 19 1)) 19 2)) 93 3 ((sD (sD (sD D 93 0 (D 19 0)) 93 1 ((sD D 93 0 (D 19 0)) 19 1)) 93 2 ((sD (sD D 93 0 (D 19 0)) 93 1 ((sD D 93 0 (D 19 0)) 19 1)) 19 2)) 19 3)), E)) rfl (fun h => ?_)
  refine gv_n hq 40 (S' := (105, [some (.ref 93), some (.ref 19)], [.ref 24, .ref 98], (cD (cD (cD (cD (sD (sD (sD (sD (sD D 93 0 (D 19 0)) 93 1 ((sD D 93 0 (D 19 0)) 19 1)) 93 2 ((sD (sD D 93 0 (D 19 0)) 93 1 ((sD D 93 0 (D 19 0)) 19 1)) 19 2)) 93 3 ((sD (sD (sD D 93 0 (D 19 0)) 93 1 ((sD D 93 0 (D 19 0)) 19 1)) 93 2 ((sD (sD D 93 0 (D 19 0)) 93 1 ((sD D 93 0 (D 19 0)) 19 1)) 19 2)) 19 3)) 93 4 ((sD (sD (sD (sD D 93 0 (D 19 0)) 93 1 ((sD D 93 0 (D 19 0)) 19 1)) 93 2 ((sD (sD D 93 0 (D 19 0)) 93 1 ((sD D 93 0 (D 19 0)) 19 1)) 19 2)) 93 3 ((sD (sD (sD D 93 0 (D 19 0)) 93 1 ((sD D 93 0 (D 19 0)) 19 1)) 93 2 ((sD (sD D 93 0 (D 19 0)) 93 1 ((sD D 93 0 (D 19 0)) 19 1)) 19 2)) 19 3)) 19 4)) 20 94 0 0 4) 21 95 0 0 4) 22 96 0 0 4) 23 97 0 0 20), E)) rfl ?_
  refine gv_d hq rfl rfl rfl rfl rfl (gv_dd (by omega) (t_People_copyOf_98_24 X (d - 1) (by omega) E _ _ rfl)) (S' := (108, [some (.ref 93), some (.ref 19)], [], (g_People_copyOf_98_24 (cD (cD (cD (cD (sD (sD (sD (sD (sD D 93 0 (D 19 0)) 93 1 ((sD D 93 0 (D 19 0)) 19 1)) 93 2 ((sD (sD D 93 0 (D 19 0)) 93 1 ((sD D 93 0 (D 19 0)) 19 1)) 19 2)) 93 3 ((sD (sD (sD D 93 0 (D 19 0)) 93 1 ((sD D 93 0 (D 19 0)) 19 1)) 93 2 ((sD (sD D 93 0 (D 19 0)) 93 1 ((sD D 93 0 (D 19 0)) 19 1)) 19 2)) 19 3)) 93 4 ((sD (sD (sD (sD D 93 0 (D 19 0)) 93 1 ((sD D 93 0 (D 19 0)) 19 1)) 93 2 ((sD (sD D 93 0 (D 19 0)) 93 1 ((sD D 93 0 (D 19 0)) 19 1)) 19 2)) 93 3 ((sD (sD (sD D 93 0 (D 19 0)) 93 1 ((sD D 93 0 (D 19 0)) 19 1)) 93 2 ((sD (sD D 93 0 (D 19 0)) 93 1 ((sD D 93 0 (D 19 0)) 19 1)) 19 2)) 19 3)) 19 4)) 20 94 0 0 4) 21 95 0 0 4) 22 96 0 0 4) 23 97 0 0 20)), E)) rfl ?_
  refine gv_n hq 32 (S' := (167, [some (.ref 93), some (.ref 19)], [], (cD (cD (sD (cD (sD (g_People_copyOf_98_24 (cD (cD (cD (cD (sD (sD (sD (sD (sD D 93 0 (D 19 0)) 93 1 ((sD D 93 0 (D 19 0)) 19 1)) 93 2 ((sD (sD D 93 0 (D 19 0)) 93 1 ((sD D 93 0 (D 19 0)) 19 1)) 19 2)) 93 3 ((sD (sD (sD D 93 0 (D 19 0)) 93 1 ((sD D 93 0 (D 19 0)) 19 1)) 93 2 ((sD (sD D 93 0 (D 19 0)) 93 1 ((sD D 93 0 (D 19 0)) 19 1)) 19 2)) 19 3)) 93 4 ((sD (sD (sD (sD D 93 0 (D 19 0)) 93 1 ((sD D 93 0 (D 19 0)) 19 1)) 93 2 ((sD (sD D 93 0 (D 19 0)) 93 1 ((sD D 93 0 (D 19 0)) 19 1)) 19 2)) 93 3 ((sD (sD (sD D 93 0 (D 19 0)) 93 1 ((sD D 93 0 (D 19 0)) 19 1)) 93 2 ((sD (sD D 93 0 (D 19 0)) 93 1 ((sD D 93 0 (D 19 0)) 19 1)) 19 2)) 19 3)) 19 4)) 20 94 0 0 4) 21 95 0 0 4) 22 96 0 0 4) 23 97 0 0 20)) 93 10 ((g_People_copyOf_98_24 (cD (cD (cD (cD (sD (sD (sD (sD (sD D 93 0 (D 19 0)) 93 1 ((sD D 93 0 (D 19 0)) 19 1)) 93 2 ((sD (sD D 93 0 (D 19 0)) 93 1 ((sD D 93 0 (D 19 0)) 19 1)) 19 2)) 93 3 ((sD (sD (sD D 93 0 (D 19 0)) 93 1 ((sD D 93 0 (D 19 0)) 19 1)) 93 2 ((sD (sD D 93 0 (D 19 0)) 93 1 ((sD D 93 0 (D 19 0)) 19 1)) 19 2)) 19 3)) 93 4 ((sD (sD (sD (sD D 93 0 (D 19 0)) 93 1 ((sD D 93 0 (D 19 0)) 19 1)) 93 2 ((sD (sD D 93 0 (D 19 0)) 93 1 ((sD D 93 0 (D 19 0)) 19 1)) 19 2)) 93 3 ((sD (sD (sD D 93 0 (D 19 0)) 93 1 ((sD D 93 0 (D 19 0)) 19 1)) 93 2 ((sD (sD D 93 0 (D 19 0)) 93 1 ((sD D 93 0 (D 19 0)) 19 1)) 19 2)) 19 3)) 19 4)) 20 94 0 0 4) 21 95 0 0 4) 22 96 0 0 4) 23 97 0 0 20)) 19 10)) 31 105 0 0 8) 93 12 ((cD (sD (g_People_copyOf_98_24 (cD (cD (cD (cD (sD (sD (sD (sD (sD D 93 0 (D 19 0)) 93 1 ((sD D 93 0 (D 19 0)) 19 1)) 93 2 ((sD (sD D 93 0 (D 19 0)) 93 1 ((sD D 93 0 (D 19 0)) 19 1)) 19 2)) 93 3 ((sD (sD (sD D 93 0 (D 19 0)) 93 1 ((sD D 93 0 (D 19 0)) 19 1)) 93 2 ((sD (sD D 93 0 (D 19 0)) 93 1 ((sD D 93 0 (D 19 0)) 19 1)) 19 2)) 19 3)) 93 4 ((sD (sD (sD (sD D 93 0 (D 19 0)) 93 1 ((sD D 93 0 (D 19 0)) 19 1)) 93 2 ((sD (sD D 93 0 (D 19 0)) 93 1 ((sD D 93 0 (D 19 0)) 19 1)) 19 2)) 93 3 ((sD (sD (sD D 93 0 (D 19 0)) 93 1 ((sD D 93 0 (D 19 0)) 19 1)) 93 2 ((sD (sD D 93 0 (D 19 0)) 93 1 ((sD D 93 0 (D 19 0)) 19 1)) 19 2)) 19 3)) 19 4)) 20 94 0 0 4) 21 95 0 0 4) 22 96 0 0 4) 23 97 0 0 20)) 93 10 ((g_People_copyOf_98_24 (cD (cD (cD (cD (sD (sD (sD (sD (sD D 93 0 (D 19 0)) 93 1 ((sD D 93 0 (D 19 0)) 19 1)) 93 2 ((sD (sD D 93 0 (D 19 0)) 93 1 ((sD D 93 0 (D 19 0)) 19 1)) 19 2)) 93 3 ((sD (sD (sD D 93 0 (D 19 0)) 93 1 ((sD D 93 0 (D 19 0)) 19 1)) 93 2 ((sD (sD D 93 0 (D 19 0)) 93 1 ((sD D 93 0 (D 19 0)) 19 1)) 19 2)) 19 3)) 93 4 ((sD (sD (sD (sD D 93 0 (D 19 0)) 93 1 ((sD D 93 0 (D 19 0)) 19 1)) 93 2 ((sD (sD D 93 0 (D 19 0)) 93 1 ((sD D 93 0 (D 19 0)) 19 1)) 19 2)) 93 3 ((sD (sD (sD D 93 0 (D 19 0)) 93 1 ((sD D 93 0 (D 19 0)) 19 1)) 93 2 ((sD (sD D 93 0 (D 19 0)) 93 1 ((sD D 93 0 (D 19 0)) 19 1)) 19 2)) 19 3)) 19 4)) 20 94 0 0 4) 21 95 0 0 4) 22 96 0 0 4) 23 97 0 0 20)) 19 10)) 31 105 0 0 8) 19 12)) 32 106 0 0 5) 33 107 0 0 5), E)) rfl ?_
  cases h
  exact ev_ret hq rfl rfl ⟨rfl, rfl, rfl⟩
def g_X_image (a1 : Int32) (D : mx_D) : Option (Int32 × mx_D) := (if a1 < 0 then (some ((-2 : Int32), D)) else (if a1 < (nI 3) then (if a1 = (nI 0) then (Option.bind (g_Church_copyOf_63_19 D) (fun r1 => (rk 3 a1 (some ((nI 0), (sD r1 61 (a1).toNatClampNeg (vp_nar .boolean (nI 1)))))))) else (if a1 = (nI 1) then (Option.bind (g_Church_copyOf_78_19 D) (fun r2 => (rk 3 a1 (some ((nI 0), (sD r2 61 (a1).toNatClampNeg (vp_nar .boolean (nI 1)))))))) else (if a1 = (nI 2) then (Option.bind (g_Church_copyOf_93_19 D) (fun r3 => (rk 3 a1 (some ((nI 0), (sD r3 61 (a1).toNatClampNeg (vp_nar .boolean (nI 1)))))))) else none))) else (some ((-2 : Int32), D))))
theorem t_X_image (X : ev_X) (d : Nat) (hd : 3 ≤ d + 1) (E : mx_E) (a1 : Int32) (D : mx_D) (v : Int32 × mx_D) (h : g_X_image a1 D = some v) : ev X (d + 1) 176 (0, [some (.ref 0), some (.int a1)], [], D, E) (qR (some (.int v.1)) v.2 E) := by
  have hq : kq_m 176 = some kq_q176 := rfl
  unfold g_X_image at h
  refine gv_n hq 1 (S' := (1, [some (.ref 0), some (.int a1)], [.int a1], D, E)) rfl ?_
  refine gv_b hq rfl h 9 4 rfl rfl rfl (fun h => ?_) (fun h => ?_)
  · refine gv_n hq 1 (S' := (11, [some (.ref 0), some (.int a1)], [.int (-2 : Int32)], D, E)) rfl ?_
    cases h
    exact ev_ret hq rfl rfl ⟨rfl, rfl, rfl⟩
  · refine gv_n hq 2 (S' := (6, [some (.ref 0), some (.int a1)], [.int (nI 3), .int a1], D, E)) rfl ?_
    refine gv_b hq rfl h 12 9 rfl rfl rfl (fun h => ?_) (fun h => ?_)
    · refine gv_n hq 3 (S' := (17, [some (.ref 0), some (.int a1)], [.int a1, .ref 60], D, E)) rfl ?_
      refine gv_if h (fun c0 h => ?_) (fun c0 h => ?_)
      · refine ev_ins hq rfl (S' := (18, [some (.ref 0), some (.int a1)], [.ref 63], D, E)) (gv_sw (fun z => ((17, [some (.ref 0), some (.int a1)], .int z :: [.ref 60], D, E) : mx_S)) c0 rfl) ?_
        refine gv_n hq 2 (S' := (22, [some (.ref 0), some (.int a1)], [.ref 19, .ref 63], D, E)) rfl ?_
        obtain ⟨r1, h1, h⟩ := Option.bind_eq_some_iff.mp h
        refine gv_d hq rfl rfl rfl rfl rfl (gv_dd (by omega) (t_Church_copyOf_63_19 X (d - 1) (by omega) E _ _ h1)) (S' := (25, [some (.ref 0), some (.int a1)], [], r1, E)) rfl ?_
        refine gv_n hq 4 (S' := (31, [some (.ref 0), some (.int a1)], [.int (nI 1), .int a1, .ref 61], r1, E)) rfl ?_
        refine gv_bs2 hq rfl rfl h 32 rfl (fun h => ?_)
        refine gv_n hq 1 (S' := (33, [some (.ref 0), some (.int a1)], [.int (nI 0)], (sD r1 61 (a1).toNatClampNeg (vp_nar .boolean (nI 1))), E)) rfl ?_
        cases h
        exact ev_ret hq rfl rfl ⟨rfl, rfl, rfl⟩
      · refine gv_if h (fun c1 h => ?_) (fun c1 h => ?_)
        · refine ev_ins hq rfl (S' := (18, [some (.ref 0), some (.int a1)], [.ref 78], D, E)) (gv_sw (fun z => ((17, [some (.ref 0), some (.int a1)], .int z :: [.ref 60], D, E) : mx_S)) c1 rfl) ?_
          refine gv_n hq 2 (S' := (22, [some (.ref 0), some (.int a1)], [.ref 19, .ref 78], D, E)) rfl ?_
          obtain ⟨r2, h1, h⟩ := Option.bind_eq_some_iff.mp h
          refine gv_d hq rfl rfl rfl rfl rfl (gv_dd (by omega) (t_Church_copyOf_78_19 X (d - 1) (by omega) E _ _ h1)) (S' := (25, [some (.ref 0), some (.int a1)], [], r2, E)) rfl ?_
          refine gv_n hq 4 (S' := (31, [some (.ref 0), some (.int a1)], [.int (nI 1), .int a1, .ref 61], r2, E)) rfl ?_
          refine gv_bs2 hq rfl rfl h 32 rfl (fun h => ?_)
          refine gv_n hq 1 (S' := (33, [some (.ref 0), some (.int a1)], [.int (nI 0)], (sD r2 61 (a1).toNatClampNeg (vp_nar .boolean (nI 1))), E)) rfl ?_
          cases h
          exact ev_ret hq rfl rfl ⟨rfl, rfl, rfl⟩
        · refine gv_if h (fun c2 h => ?_) (fun c2 h => ?_)
          · refine ev_ins hq rfl (S' := (18, [some (.ref 0), some (.int a1)], [.ref 93], D, E)) (gv_sw (fun z => ((17, [some (.ref 0), some (.int a1)], .int z :: [.ref 60], D, E) : mx_S)) c2 rfl) ?_
            refine gv_n hq 2 (S' := (22, [some (.ref 0), some (.int a1)], [.ref 19, .ref 93], D, E)) rfl ?_
            obtain ⟨r3, h1, h⟩ := Option.bind_eq_some_iff.mp h
            refine gv_d hq rfl rfl rfl rfl rfl (gv_dd (by omega) (t_Church_copyOf_93_19 X (d - 1) (by omega) E _ _ h1)) (S' := (25, [some (.ref 0), some (.int a1)], [], r3, E)) rfl ?_
            refine gv_n hq 4 (S' := (31, [some (.ref 0), some (.int a1)], [.int (nI 1), .int a1, .ref 61], r3, E)) rfl ?_
            refine gv_bs2 hq rfl rfl h 32 rfl (fun h => ?_)
            refine gv_n hq 1 (S' := (33, [some (.ref 0), some (.int a1)], [.int (nI 0)], (sD r3 61 (a1).toNatClampNeg (vp_nar .boolean (nI 1))), E)) rfl ?_
            cases h
            exact ev_ret hq rfl rfl ⟨rfl, rfl, rfl⟩
          · cases h
    · refine gv_n hq 1 (S' := (11, [some (.ref 0), some (.int a1)], [.int (-2 : Int32)], D, E)) rfl ?_
      cases h
      exact ev_ret hq rfl rfl ⟨rfl, rfl, rfl⟩
def b_M_image_17 (F : Nat) (k17 : Int32 → Int32 → mx_D → Option (Int32 × mx_D)) (l1 : Int32) (l2 : Int32) (D : mx_D) : Option (Int32 × mx_D) := (if (nI 106) ≤ l2 then (rk 3 l1 (some ((nI 0), (sD D 119 (l1).toNatClampNeg (vp_nar .boolean (nI 1)))))) else (rk 106 l2 (rk 318 (((nI 106) * l1) + l2) (k17 l1 (l2 + (nI 1)) (sD D 118 ((((nI 106) * l1) + l2)).toNatClampNeg (D 117 (l2).toNatClampNeg))))))
theorem tb_M_image_17 (X : ev_X) (F : Nat) (d : Nat) (hd : 1 ≤ d + 1) (E : mx_E) (k17 : Int32 → Int32 → mx_D → Option (Int32 × mx_D)) (K17 : ∀ (l1 : Int32) (l2 : Int32) (D : mx_D) (v : Int32 × mx_D), k17 l1 l2 D = some v → ev X (d + 1) 182 (17, [some (.ref 116), some (.int l1), some (.int l2)], [], D, E) (qR (some (.int v.1)) v.2 E)) (l1 : Int32) (l2 : Int32) (D : mx_D) (v : Int32 × mx_D) (h : b_M_image_17 F k17 l1 l2 D = some v) : ev X (d + 1) 182 (17, [some (.ref 116), some (.int l1), some (.int l2)], [], D, E) (qR (some (.int v.1)) v.2 E) := by
  have hq : kq_m 182 = some kq_q182 := rfl
  unfold b_M_image_17 at h
  refine gv_n hq 2 (S' := (20, [some (.ref 116), some (.int l1), some (.int l2)], [.int (nI 106), .int l2], D, E)) rfl ?_
  refine gv_b hq rfl h 46 23 rfl rfl rfl (fun h => ?_) (fun h => ?_)
  · refine gv_n hq 4 (S' := (52, [some (.ref 116), some (.int l1), some (.int l2)], [.int (nI 1), .int l1, .ref 119], D, E)) rfl ?_
    refine gv_bs2 hq rfl rfl h 53 rfl (fun h => ?_)
    refine gv_n hq 1 (S' := (54, [some (.ref 116), some (.int l1), some (.int l2)], [.int (nI 0)], (sD D 119 (l1).toNatClampNeg (vp_nar .boolean (nI 1))), E)) rfl ?_
    cases h
    exact ev_ret hq rfl rfl ⟨rfl, rfl, rfl⟩
  · refine gv_n hq 10 (S' := (38, [some (.ref 116), some (.int l1), some (.int l2)], [.int l2, .ref 117, .int (((nI 106) * l1) + l2), .ref 118], D, E)) rfl ?_
    refine gv_ia hq rfl rfl rfl h 39 rfl (fun h => ?_)
    refine gv_is hq rfl rfl h 40 rfl (fun h => ?_)
    refine gv_n hq 2 (S' := (17, [some (.ref 116), some (.int l1), some (.int (l2 + (nI 1)))], [], (sD D 118 ((((nI 106) * l1) + l2)).toNatClampNeg (D 117 (l2).toNatClampNeg)), E)) rfl ?_
    exact gv_w (K17 _ _ _ _ h) (And.intro rfl (And.intro rfl (And.intro rfl trivial)))
def g_M_image_17 (F : Nat) : Nat → Int32 → Int32 → mx_D → Option (Int32 × mx_D) := it (fun k17 => b_M_image_17 F k17) (fun _ _ _ => none)
theorem t_M_image_17 (X : ev_X) (F : Nat) (d : Nat) (hd : 1 ≤ d + 1) (E : mx_E)  : ∀ (n : Nat) (l1 : Int32) (l2 : Int32) (D : mx_D) (v : Int32 × mx_D), g_M_image_17 F n l1 l2 D = some v → ev X (d + 1) 182 (17, [some (.ref 116), some (.int l1), some (.int l2)], [], D, E) (qR (some (.int v.1)) v.2 E) := by
  intro n
  induction n with
  | zero => intro l1 l2 D v h; cases h
  | succ n ih => intro l1 l2 D v h; exact tb_M_image_17 X F d hd E (g_M_image_17 F n) ih l1 l2 D v h
def g_M_image (F : Nat) (a1 : Int32) (D : mx_D) : Option (Int32 × mx_D) := (if (g_M_in ((a1).toInt64) (lN 0) (2 : Int64)) = 0 then (some ((-2 : Int32), D)) else (g_M_image_17 F F a1 (nI 0) D))
theorem t_M_image (X : ev_X) (F : Nat) (d : Nat) (hd : 1 ≤ d + 1) (E : mx_E) (a1 : Int32) (D : mx_D) (v : Int32 × mx_D) (h : g_M_image F a1 D = some v) : ev X (d + 1) 182 (0, [some (.ref 116), some (.int a1), none], [], D, E) (qR (some (.int v.1)) v.2 E) := by
  have hq : kq_m 182 = some kq_q182 := rfl
  unfold g_M_image at h
  refine gv_n hq 4 (S' := (6, [some (.ref 116), some (.int a1), none], [.long (2 : Int64), .long (lN 0), .long ((a1).toInt64)], D, E)) rfl ?_
  refine gv_d hq rfl rfl rfl rfl rfl ((t_M_in X d D E _ _ _ _ rfl)) (S' := (9, [some (.ref 116), some (.int a1), none], [.int (g_M_in ((a1).toInt64) (lN 0) (2 : Int64))], D, E)) rfl ?_
  refine gv_b hq rfl h 12 15 rfl rfl rfl (fun h => ?_) (fun h => ?_)
  · refine gv_n hq 1 (S' := (14, [some (.ref 116), some (.int a1), none], [.int (-2 : Int32)], D, E)) rfl ?_
    cases h
    exact ev_ret hq rfl rfl ⟨rfl, rfl, rfl⟩
  · refine gv_n hq 2 (S' := (17, [some (.ref 116), some (.int a1), some (.int (nI 0))], [], D, E)) rfl ?_
    exact gv_w (t_M_image_17 X F d hd E F _ _ _ _ h) (And.intro rfl (And.intro rfl (And.intro rfl trivial)))
def g_People_copyOf_68 (D : mx_D) : mx_D := (sD (cD (cD (cD (cD (cD (cD D 69 25 0 0 8) 70 26 0 0 8) 71 27 0 0 8) 72 28 0 0 8) 73 29 0 0 8) 74 30 0 0 8) 24 6 ((cD (cD (cD (cD (cD (cD D 69 25 0 0 8) 70 26 0 0 8) 71 27 0 0 8) 72 28 0 0 8) 73 29 0 0 8) 74 30 0 0 8) 68 6))
theorem t_People_copyOf_68 (X : ev_X) (d : Nat) (hd : 1 ≤ d + 1) (E : mx_E) (D : mx_D) (v : mx_D) (h : g_People_copyOf_68 D = v) : ev X (d + 1) 56 (0, [some (.ref 24), some (.ref 68)], [], D, E) (qR none v E) := by
  have hq : kq_m 56 = some kq_q56 := rfl
  unfold g_People_copyOf_68 at h
  refine gv_n hq 52 (S' := (98, [some (.ref 24), some (.ref 68)], [], (sD (cD (cD (cD (cD (cD (cD D 69 25 0 0 8) 70 26 0 0 8) 71 27 0 0 8) 72 28 0 0 8) 73 29 0 0 8) 74 30 0 0 8) 24 6 ((cD (cD (cD (cD (cD (cD D 69 25 0 0 8) 70 26 0 0 8) 71 27 0 0 8) 72 28 0 0 8) 73 29 0 0 8) 74 30 0 0 8) 68 6)), E)) rfl ?_
  subst h
  exact ev_ret hq rfl rfl ⟨rfl, rfl, rfl⟩
def g_Church_copyOf_63 (D : mx_D) : Option (mx_D) := (zk ((sD (sD (sD D 19 0 (D 63 0)) 19 1 ((sD D 19 0 (D 63 0)) 63 1)) 19 2 ((sD (sD D 19 0 (D 63 0)) 19 1 ((sD D 19 0 (D 63 0)) 63 1)) 63 2)) 63 3) (some (cD (cD (sD (cD (sD (g_People_copyOf_68 (cD (cD (cD (cD (sD (sD (sD (sD (sD D 19 0 (D 63 0)) 19 1 ((sD D 19 0 (D 63 0)) 63 1)) 19 2 ((sD (sD D 19 0 (D 63 0)) 19 1 ((sD D 19 0 (D 63 0)) 63 1)) 63 2)) 19 3 ((sD (sD (sD D 19 0 (D 63 0)) 19 1 ((sD D 19 0 (D 63 0)) 63 1)) 19 2 ((sD (sD D 19 0 (D 63 0)) 19 1 ((sD D 19 0 (D 63 0)) 63 1)) 63 2)) 63 3)) 19 4 ((sD (sD (sD (sD D 19 0 (D 63 0)) 19 1 ((sD D 19 0 (D 63 0)) 63 1)) 19 2 ((sD (sD D 19 0 (D 63 0)) 19 1 ((sD D 19 0 (D 63 0)) 63 1)) 63 2)) 19 3 ((sD (sD (sD D 19 0 (D 63 0)) 19 1 ((sD D 19 0 (D 63 0)) 63 1)) 19 2 ((sD (sD D 19 0 (D 63 0)) 19 1 ((sD D 19 0 (D 63 0)) 63 1)) 63 2)) 63 3)) 63 4)) 64 20 0 0 4) 65 21 0 0 4) 66 22 0 0 4) 67 23 0 0 20)) 19 10 ((g_People_copyOf_68 (cD (cD (cD (cD (sD (sD (sD (sD (sD D 19 0 (D 63 0)) 19 1 ((sD D 19 0 (D 63 0)) 63 1)) 19 2 ((sD (sD D 19 0 (D 63 0)) 19 1 ((sD D 19 0 (D 63 0)) 63 1)) 63 2)) 19 3 ((sD (sD (sD D 19 0 (D 63 0)) 19 1 ((sD D 19 0 (D 63 0)) 63 1)) 19 2 ((sD (sD D 19 0 (D 63 0)) 19 1 ((sD D 19 0 (D 63 0)) 63 1)) 63 2)) 63 3)) 19 4 ((sD (sD (sD (sD D 19 0 (D 63 0)) 19 1 ((sD D 19 0 (D 63 0)) 63 1)) 19 2 ((sD (sD D 19 0 (D 63 0)) 19 1 ((sD D 19 0 (D 63 0)) 63 1)) 63 2)) 19 3 ((sD (sD (sD D 19 0 (D 63 0)) 19 1 ((sD D 19 0 (D 63 0)) 63 1)) 19 2 ((sD (sD D 19 0 (D 63 0)) 19 1 ((sD D 19 0 (D 63 0)) 63 1)) 63 2)) 63 3)) 63 4)) 64 20 0 0 4) 65 21 0 0 4) 66 22 0 0 4) 67 23 0 0 20)) 63 10)) 75 31 0 0 8) 19 12 ((cD (sD (g_People_copyOf_68 (cD (cD (cD (cD (sD (sD (sD (sD (sD D 19 0 (D 63 0)) 19 1 ((sD D 19 0 (D 63 0)) 63 1)) 19 2 ((sD (sD D 19 0 (D 63 0)) 19 1 ((sD D 19 0 (D 63 0)) 63 1)) 63 2)) 19 3 ((sD (sD (sD D 19 0 (D 63 0)) 19 1 ((sD D 19 0 (D 63 0)) 63 1)) 19 2 ((sD (sD D 19 0 (D 63 0)) 19 1 ((sD D 19 0 (D 63 0)) 63 1)) 63 2)) 63 3)) 19 4 ((sD (sD (sD (sD D 19 0 (D 63 0)) 19 1 ((sD D 19 0 (D 63 0)) 63 1)) 19 2 ((sD (sD D 19 0 (D 63 0)) 19 1 ((sD D 19 0 (D 63 0)) 63 1)) 63 2)) 19 3 ((sD (sD (sD D 19 0 (D 63 0)) 19 1 ((sD D 19 0 (D 63 0)) 63 1)) 19 2 ((sD (sD D 19 0 (D 63 0)) 19 1 ((sD D 19 0 (D 63 0)) 63 1)) 63 2)) 63 3)) 63 4)) 64 20 0 0 4) 65 21 0 0 4) 66 22 0 0 4) 67 23 0 0 20)) 19 10 ((g_People_copyOf_68 (cD (cD (cD (cD (sD (sD (sD (sD (sD D 19 0 (D 63 0)) 19 1 ((sD D 19 0 (D 63 0)) 63 1)) 19 2 ((sD (sD D 19 0 (D 63 0)) 19 1 ((sD D 19 0 (D 63 0)) 63 1)) 63 2)) 19 3 ((sD (sD (sD D 19 0 (D 63 0)) 19 1 ((sD D 19 0 (D 63 0)) 63 1)) 19 2 ((sD (sD D 19 0 (D 63 0)) 19 1 ((sD D 19 0 (D 63 0)) 63 1)) 63 2)) 63 3)) 19 4 ((sD (sD (sD (sD D 19 0 (D 63 0)) 19 1 ((sD D 19 0 (D 63 0)) 63 1)) 19 2 ((sD (sD D 19 0 (D 63 0)) 19 1 ((sD D 19 0 (D 63 0)) 63 1)) 63 2)) 19 3 ((sD (sD (sD D 19 0 (D 63 0)) 19 1 ((sD D 19 0 (D 63 0)) 63 1)) 19 2 ((sD (sD D 19 0 (D 63 0)) 19 1 ((sD D 19 0 (D 63 0)) 63 1)) 63 2)) 63 3)) 63 4)) 64 20 0 0 4) 65 21 0 0 4) 66 22 0 0 4) 67 23 0 0 20)) 63 10)) 75 31 0 0 8) 63 12)) 76 32 0 0 5) 77 33 0 0 5)))
theorem t_Church_copyOf_63 (X : ev_X) (d : Nat) (hd : 2 ≤ d + 1) (E : mx_E) (D : mx_D) (v : mx_D) (h : g_Church_copyOf_63 D = some v) : ev X (d + 1) 15 (0, [some (.ref 19), some (.ref 63)], [], D, E) (qR none v E) := by
  have hq : kq_m 15 = some kq_q15 := rfl
  unfold g_Church_copyOf_63 at h
  refine gv_n hq 15 (S' := (29, [some (.ref 19), some (.ref 63)], [.int ((sD (sD (sD D 19 0 (D 63 0)) 19 1 ((sD D 19 0 (D 63 0)) 63 1)) 19 2 ((sD (sD D 19 0 (D 63 0)) 19 1 ((sD D 19 0 (D 63 0)) 63 1)) 63 2)) 63 3), .ref 19], (sD (sD (sD D 19 0 (D 63 0)) 19 1 ((sD D 19 0 (D 63 0)) 63 1)) 19 2 ((sD (sD D 19 0 (D 63 0)) 19 1 ((sD D 19 0 (D 63 0)) 63 1)) 63 2)), E)) rfl ?_
  refine gv_zp hq rfl h (S' := (32, [some (.ref 19), some (.ref 63)], [], (sD (sD (sD (sD D 19 0 (D 63 0)) 19 1 ((sD D 19 0 (D 63 0)) 63 1)) 19 2 ((sD (sD D 19 0 (D 63 0)) 19 1 ((sD D 19 0 (D 63 0)) 63 1)) 63 2)) 19 3 ((sD (sD (sD D 19 0 (D 63 0)) 19 1 ((sD D 19 0 (D 63 0)) 63 1)) 19 2 ((sD (sD D 19 0 (D 63 0)) 19 1 ((sD D 19 0 (D 63 0)) 63 1)) 63 2)) 63 3)), E)) rfl (fun h => ?_)
  refine gv_n hq 40 (S' := (105, [some (.ref 19), some (.ref 63)], [.ref 68, .ref 24], (cD (cD (cD (cD (sD (sD (sD (sD (sD D 19 0 (D 63 0)) 19 1 ((sD D 19 0 (D 63 0)) 63 1)) 19 2 ((sD (sD D 19 0 (D 63 0)) 19 1 ((sD D 19 0 (D 63 0)) 63 1)) 63 2)) 19 3 ((sD (sD (sD D 19 0 (D 63 0)) 19 1 ((sD D 19 0 (D 63 0)) 63 1)) 19 2 ((sD (sD D 19 0 (D 63 0)) 19 1 ((sD D 19 0 (D 63 0)) 63 1)) 63 2)) 63 3)) 19 4 ((sD (sD (sD (sD D 19 0 (D 63 0)) 19 1 ((sD D 19 0 (D 63 0)) 63 1)) 19 2 ((sD (sD D 19 0 (D 63 0)) 19 1 ((sD D 19 0 (D 63 0)) 63 1)) 63 2)) 19 3 ((sD (sD (sD D 19 0 (D 63 0)) 19 1 ((sD D 19 0 (D 63 0)) 63 1)) 19 2 ((sD (sD D 19 0 (D 63 0)) 19 1 ((sD D 19 0 (D 63 0)) 63 1)) 63 2)) 63 3)) 63 4)) 64 20 0 0 4) 65 21 0 0 4) 66 22 0 0 4) 67 23 0 0 20), E)) rfl ?_
  refine gv_d hq rfl rfl rfl rfl rfl (gv_dd (by omega) (t_People_copyOf_68 X (d - 1) (by omega) E _ _ rfl)) (S' := (108, [some (.ref 19), some (.ref 63)], [], (g_People_copyOf_68 (cD (cD (cD (cD (sD (sD (sD (sD (sD D 19 0 (D 63 0)) 19 1 ((sD D 19 0 (D 63 0)) 63 1)) 19 2 ((sD (sD D 19 0 (D 63 0)) 19 1 ((sD D 19 0 (D 63 0)) 63 1)) 63 2)) 19 3 ((sD (sD (sD D 19 0 (D 63 0)) 19 1 ((sD D 19 0 (D 63 0)) 63 1)) 19 2 ((sD (sD D 19 0 (D 63 0)) 19 1 ((sD D 19 0 (D 63 0)) 63 1)) 63 2)) 63 3)) 19 4 ((sD (sD (sD (sD D 19 0 (D 63 0)) 19 1 ((sD D 19 0 (D 63 0)) 63 1)) 19 2 ((sD (sD D 19 0 (D 63 0)) 19 1 ((sD D 19 0 (D 63 0)) 63 1)) 63 2)) 19 3 ((sD (sD (sD D 19 0 (D 63 0)) 19 1 ((sD D 19 0 (D 63 0)) 63 1)) 19 2 ((sD (sD D 19 0 (D 63 0)) 19 1 ((sD D 19 0 (D 63 0)) 63 1)) 63 2)) 63 3)) 63 4)) 64 20 0 0 4) 65 21 0 0 4) 66 22 0 0 4) 67 23 0 0 20)), E)) rfl ?_
  refine gv_n hq 32 (S' := (167, [some (.ref 19), some (.ref 63)], [], (cD (cD (sD (cD (sD (g_People_copyOf_68 (cD (cD (cD (cD (sD (sD (sD (sD (sD D 19 0 (D 63 0)) 19 1 ((sD D 19 0 (D 63 0)) 63 1)) 19 2 ((sD (sD D 19 0 (D 63 0)) 19 1 ((sD D 19 0 (D 63 0)) 63 1)) 63 2)) 19 3 ((sD (sD (sD D 19 0 (D 63 0)) 19 1 ((sD D 19 0 (D 63 0)) 63 1)) 19 2 ((sD (sD D 19 0 (D 63 0)) 19 1 ((sD D 19 0 (D 63 0)) 63 1)) 63 2)) 63 3)) 19 4 ((sD (sD (sD (sD D 19 0 (D 63 0)) 19 1 ((sD D 19 0 (D 63 0)) 63 1)) 19 2 ((sD (sD D 19 0 (D 63 0)) 19 1 ((sD D 19 0 (D 63 0)) 63 1)) 63 2)) 19 3 ((sD (sD (sD D 19 0 (D 63 0)) 19 1 ((sD D 19 0 (D 63 0)) 63 1)) 19 2 ((sD (sD D 19 0 (D 63 0)) 19 1 ((sD D 19 0 (D 63 0)) 63 1)) 63 2)) 63 3)) 63 4)) 64 20 0 0 4) 65 21 0 0 4) 66 22 0 0 4) 67 23 0 0 20)) 19 10 ((g_People_copyOf_68 (cD (cD (cD (cD (sD (sD (sD (sD (sD D 19 0 (D 63 0)) 19 1 ((sD D 19 0 (D 63 0)) 63 1)) 19 2 ((sD (sD D 19 0 (D 63 0)) 19 1 ((sD D 19 0 (D 63 0)) 63 1)) 63 2)) 19 3 ((sD (sD (sD D 19 0 (D 63 0)) 19 1 ((sD D 19 0 (D 63 0)) 63 1)) 19 2 ((sD (sD D 19 0 (D 63 0)) 19 1 ((sD D 19 0 (D 63 0)) 63 1)) 63 2)) 63 3)) 19 4 ((sD (sD (sD (sD D 19 0 (D 63 0)) 19 1 ((sD D 19 0 (D 63 0)) 63 1)) 19 2 ((sD (sD D 19 0 (D 63 0)) 19 1 ((sD D 19 0 (D 63 0)) 63 1)) 63 2)) 19 3 ((sD (sD (sD D 19 0 (D 63 0)) 19 1 ((sD D 19 0 (D 63 0)) 63 1)) 19 2 ((sD (sD D 19 0 (D 63 0)) 19 1 ((sD D 19 0 (D 63 0)) 63 1)) 63 2)) 63 3)) 63 4)) 64 20 0 0 4) 65 21 0 0 4) 66 22 0 0 4) 67 23 0 0 20)) 63 10)) 75 31 0 0 8) 19 12 ((cD (sD (g_People_copyOf_68 (cD (cD (cD (cD (sD (sD (sD (sD (sD D 19 0 (D 63 0)) 19 1 ((sD D 19 0 (D 63 0)) 63 1)) 19 2 ((sD (sD D 19 0 (D 63 0)) 19 1 ((sD D 19 0 (D 63 0)) 63 1)) 63 2)) 19 3 ((sD (sD (sD D 19 0 (D 63 0)) 19 1 ((sD D 19 0 (D 63 0)) 63 1)) 19 2 ((sD (sD D 19 0 (D 63 0)) 19 1 ((sD D 19 0 (D 63 0)) 63 1)) 63 2)) 63 3)) 19 4 ((sD (sD (sD (sD D 19 0 (D 63 0)) 19 1 ((sD D 19 0 (D 63 0)) 63 1)) 19 2 ((sD (sD D 19 0 (D 63 0)) 19 1 ((sD D 19 0 (D 63 0)) 63 1)) 63 2)) 19 3 ((sD (sD (sD D 19 0 (D 63 0)) 19 1 ((sD D 19 0 (D 63 0)) 63 1)) 19 2 ((sD (sD D 19 0 (D 63 0)) 19 1 ((sD D 19 0 (D 63 0)) 63 1)) 63 2)) 63 3)) 63 4)) 64 20 0 0 4) 65 21 0 0 4) 66 22 0 0 4) 67 23 0 0 20)) 19 10 ((g_People_copyOf_68 (cD (cD (cD (cD (sD (sD (sD (sD (sD D 19 0 (D 63 0)) 19 1 ((sD D 19 0 (D 63 0)) 63 1)) 19 2 ((sD (sD D 19 0 (D 63 0)) 19 1 ((sD D 19 0 (D 63 0)) 63 1)) 63 2)) 19 3 ((sD (sD (sD D 19 0 (D 63 0)) 19 1 ((sD D 19 0 (D 63 0)) 63 1)) 19 2 ((sD (sD D 19 0 (D 63 0)) 19 1 ((sD D 19 0 (D 63 0)) 63 1)) 63 2)) 63 3)) 19 4 ((sD (sD (sD (sD D 19 0 (D 63 0)) 19 1 ((sD D 19 0 (D 63 0)) 63 1)) 19 2 ((sD (sD D 19 0 (D 63 0)) 19 1 ((sD D 19 0 (D 63 0)) 63 1)) 63 2)) 19 3 ((sD (sD (sD D 19 0 (D 63 0)) 19 1 ((sD D 19 0 (D 63 0)) 63 1)) 19 2 ((sD (sD D 19 0 (D 63 0)) 19 1 ((sD D 19 0 (D 63 0)) 63 1)) 63 2)) 63 3)) 63 4)) 64 20 0 0 4) 65 21 0 0 4) 66 22 0 0 4) 67 23 0 0 20)) 63 10)) 75 31 0 0 8) 63 12)) 76 32 0 0 5) 77 33 0 0 5), E)) rfl ?_
  cases h
  exact ev_ret hq rfl rfl ⟨rfl, rfl, rfl⟩
def g_People_copyOf_83 (D : mx_D) : mx_D := (sD (cD (cD (cD (cD (cD (cD D 84 25 0 0 8) 85 26 0 0 8) 86 27 0 0 8) 87 28 0 0 8) 88 29 0 0 8) 89 30 0 0 8) 24 6 ((cD (cD (cD (cD (cD (cD D 84 25 0 0 8) 85 26 0 0 8) 86 27 0 0 8) 87 28 0 0 8) 88 29 0 0 8) 89 30 0 0 8) 83 6))
theorem t_People_copyOf_83 (X : ev_X) (d : Nat) (hd : 1 ≤ d + 1) (E : mx_E) (D : mx_D) (v : mx_D) (h : g_People_copyOf_83 D = v) : ev X (d + 1) 56 (0, [some (.ref 24), some (.ref 83)], [], D, E) (qR none v E) := by
  have hq : kq_m 56 = some kq_q56 := rfl
  unfold g_People_copyOf_83 at h
  refine gv_n hq 52 (S' := (98, [some (.ref 24), some (.ref 83)], [], (sD (cD (cD (cD (cD (cD (cD D 84 25 0 0 8) 85 26 0 0 8) 86 27 0 0 8) 87 28 0 0 8) 88 29 0 0 8) 89 30 0 0 8) 24 6 ((cD (cD (cD (cD (cD (cD D 84 25 0 0 8) 85 26 0 0 8) 86 27 0 0 8) 87 28 0 0 8) 88 29 0 0 8) 89 30 0 0 8) 83 6)), E)) rfl ?_
  subst h
  exact ev_ret hq rfl rfl ⟨rfl, rfl, rfl⟩
def g_Church_copyOf_78 (D : mx_D) : Option (mx_D) := (zk ((sD (sD (sD D 19 0 (D 78 0)) 19 1 ((sD D 19 0 (D 78 0)) 78 1)) 19 2 ((sD (sD D 19 0 (D 78 0)) 19 1 ((sD D 19 0 (D 78 0)) 78 1)) 78 2)) 78 3) (some (cD (cD (sD (cD (sD (g_People_copyOf_83 (cD (cD (cD (cD (sD (sD (sD (sD (sD D 19 0 (D 78 0)) 19 1 ((sD D 19 0 (D 78 0)) 78 1)) 19 2 ((sD (sD D 19 0 (D 78 0)) 19 1 ((sD D 19 0 (D 78 0)) 78 1)) 78 2)) 19 3 ((sD (sD (sD D 19 0 (D 78 0)) 19 1 ((sD D 19 0 (D 78 0)) 78 1)) 19 2 ((sD (sD D 19 0 (D 78 0)) 19 1 ((sD D 19 0 (D 78 0)) 78 1)) 78 2)) 78 3)) 19 4 ((sD (sD (sD (sD D 19 0 (D 78 0)) 19 1 ((sD D 19 0 (D 78 0)) 78 1)) 19 2 ((sD (sD D 19 0 (D 78 0)) 19 1 ((sD D 19 0 (D 78 0)) 78 1)) 78 2)) 19 3 ((sD (sD (sD D 19 0 (D 78 0)) 19 1 ((sD D 19 0 (D 78 0)) 78 1)) 19 2 ((sD (sD D 19 0 (D 78 0)) 19 1 ((sD D 19 0 (D 78 0)) 78 1)) 78 2)) 78 3)) 78 4)) 79 20 0 0 4) 80 21 0 0 4) 81 22 0 0 4) 82 23 0 0 20)) 19 10 ((g_People_copyOf_83 (cD (cD (cD (cD (sD (sD (sD (sD (sD D 19 0 (D 78 0)) 19 1 ((sD D 19 0 (D 78 0)) 78 1)) 19 2 ((sD (sD D 19 0 (D 78 0)) 19 1 ((sD D 19 0 (D 78 0)) 78 1)) 78 2)) 19 3 ((sD (sD (sD D 19 0 (D 78 0)) 19 1 ((sD D 19 0 (D 78 0)) 78 1)) 19 2 ((sD (sD D 19 0 (D 78 0)) 19 1 ((sD D 19 0 (D 78 0)) 78 1)) 78 2)) 78 3)) 19 4 ((sD (sD (sD (sD D 19 0 (D 78 0)) 19 1 ((sD D 19 0 (D 78 0)) 78 1)) 19 2 ((sD (sD D 19 0 (D 78 0)) 19 1 ((sD D 19 0 (D 78 0)) 78 1)) 78 2)) 19 3 ((sD (sD (sD D 19 0 (D 78 0)) 19 1 ((sD D 19 0 (D 78 0)) 78 1)) 19 2 ((sD (sD D 19 0 (D 78 0)) 19 1 ((sD D 19 0 (D 78 0)) 78 1)) 78 2)) 78 3)) 78 4)) 79 20 0 0 4) 80 21 0 0 4) 81 22 0 0 4) 82 23 0 0 20)) 78 10)) 90 31 0 0 8) 19 12 ((cD (sD (g_People_copyOf_83 (cD (cD (cD (cD (sD (sD (sD (sD (sD D 19 0 (D 78 0)) 19 1 ((sD D 19 0 (D 78 0)) 78 1)) 19 2 ((sD (sD D 19 0 (D 78 0)) 19 1 ((sD D 19 0 (D 78 0)) 78 1)) 78 2)) 19 3 ((sD (sD (sD D 19 0 (D 78 0)) 19 1 ((sD D 19 0 (D 78 0)) 78 1)) 19 2 ((sD (sD D 19 0 (D 78 0)) 19 1 ((sD D 19 0 (D 78 0)) 78 1)) 78 2)) 78 3)) 19 4 ((sD (sD (sD (sD D 19 0 (D 78 0)) 19 1 ((sD D 19 0 (D 78 0)) 78 1)) 19 2 ((sD (sD D 19 0 (D 78 0)) 19 1 ((sD D 19 0 (D 78 0)) 78 1)) 78 2)) 19 3 ((sD (sD (sD D 19 0 (D 78 0)) 19 1 ((sD D 19 0 (D 78 0)) 78 1)) 19 2 ((sD (sD D 19 0 (D 78 0)) 19 1 ((sD D 19 0 (D 78 0)) 78 1)) 78 2)) 78 3)) 78 4)) 79 20 0 0 4) 80 21 0 0 4) 81 22 0 0 4) 82 23 0 0 20)) 19 10 ((g_People_copyOf_83 (cD (cD (cD (cD (sD (sD (sD (sD (sD D 19 0 (D 78 0)) 19 1 ((sD D 19 0 (D 78 0)) 78 1)) 19 2 ((sD (sD D 19 0 (D 78 0)) 19 1 ((sD D 19 0 (D 78 0)) 78 1)) 78 2)) 19 3 ((sD (sD (sD D 19 0 (D 78 0)) 19 1 ((sD D 19 0 (D 78 0)) 78 1)) 19 2 ((sD (sD D 19 0 (D 78 0)) 19 1 ((sD D 19 0 (D 78 0)) 78 1)) 78 2)) 78 3)) 19 4 ((sD (sD (sD (sD D 19 0 (D 78 0)) 19 1 ((sD D 19 0 (D 78 0)) 78 1)) 19 2 ((sD (sD D 19 0 (D 78 0)) 19 1 ((sD D 19 0 (D 78 0)) 78 1)) 78 2)) 19 3 ((sD (sD (sD D 19 0 (D 78 0)) 19 1 ((sD D 19 0 (D 78 0)) 78 1)) 19 2 ((sD (sD D 19 0 (D 78 0)) 19 1 ((sD D 19 0 (D 78 0)) 78 1)) 78 2)) 78 3)) 78 4)) 79 20 0 0 4) 80 21 0 0 4) 81 22 0 0 4) 82 23 0 0 20)) 78 10)) 90 31 0 0 8) 78 12)) 91 32 0 0 5) 92 33 0 0 5)))
theorem t_Church_copyOf_78 (X : ev_X) (d : Nat) (hd : 2 ≤ d + 1) (E : mx_E) (D : mx_D) (v : mx_D) (h : g_Church_copyOf_78 D = some v) : ev X (d + 1) 15 (0, [some (.ref 19), some (.ref 78)], [], D, E) (qR none v E) := by
  have hq : kq_m 15 = some kq_q15 := rfl
  unfold g_Church_copyOf_78 at h
  refine gv_n hq 15 (S' := (29, [some (.ref 19), some (.ref 78)], [.int ((sD (sD (sD D 19 0 (D 78 0)) 19 1 ((sD D 19 0 (D 78 0)) 78 1)) 19 2 ((sD (sD D 19 0 (D 78 0)) 19 1 ((sD D 19 0 (D 78 0)) 78 1)) 78 2)) 78 3), .ref 19], (sD (sD (sD D 19 0 (D 78 0)) 19 1 ((sD D 19 0 (D 78 0)) 78 1)) 19 2 ((sD (sD D 19 0 (D 78 0)) 19 1 ((sD D 19 0 (D 78 0)) 78 1)) 78 2)), E)) rfl ?_
  refine gv_zp hq rfl h (S' := (32, [some (.ref 19), some (.ref 78)], [], (sD (sD (sD (sD D 19 0 (D 78 0)) 19 1 ((sD D 19 0 (D 78 0)) 78 1)) 19 2 ((sD (sD D 19 0 (D 78 0)) 19 1 ((sD D 19 0 (D 78 0)) 78 1)) 78 2)) 19 3 ((sD (sD (sD D 19 0 (D 78 0)) 19 1 ((sD D 19 0 (D 78 0)) 78 1)) 19 2 ((sD (sD D 19 0 (D 78 0)) 19 1 ((sD D 19 0 (D 78 0)) 78 1)) 78 2)) 78 3)), E)) rfl (fun h => ?_)
  refine gv_n hq 40 (S' := (105, [some (.ref 19), some (.ref 78)], [.ref 83, .ref 24], (cD (cD (cD (cD (sD (sD (sD (sD (sD D 19 0 (D 78 0)) 19 1 ((sD D 19 0 (D 78 0)) 78 1)) 19 2 ((sD (sD D 19 0 (D 78 0)) 19 1 ((sD D 19 0 (D 78 0)) 78 1)) 78 2)) 19 3 ((sD (sD (sD D 19 0 (D 78 0)) 19 1 ((sD D 19 0 (D 78 0)) 78 1)) 19 2 ((sD (sD D 19 0 (D 78 0)) 19 1 ((sD D 19 0 (D 78 0)) 78 1)) 78 2)) 78 3)) 19 4 ((sD (sD (sD (sD D 19 0 (D 78 0)) 19 1 ((sD D 19 0 (D 78 0)) 78 1)) 19 2 ((sD (sD D 19 0 (D 78 0)) 19 1 ((sD D 19 0 (D 78 0)) 78 1)) 78 2)) 19 3 ((sD (sD (sD D 19 0 (D 78 0)) 19 1 ((sD D 19 0 (D 78 0)) 78 1)) 19 2 ((sD (sD D 19 0 (D 78 0)) 19 1 ((sD D 19 0 (D 78 0)) 78 1)) 78 2)) 78 3)) 78 4)) 79 20 0 0 4) 80 21 0 0 4) 81 22 0 0 4) 82 23 0 0 20), E)) rfl ?_
  refine gv_d hq rfl rfl rfl rfl rfl (gv_dd (by omega) (t_People_copyOf_83 X (d - 1) (by omega) E _ _ rfl)) (S' := (108, [some (.ref 19), some (.ref 78)], [], (g_People_copyOf_83 (cD (cD (cD (cD (sD (sD (sD (sD (sD D 19 0 (D 78 0)) 19 1 ((sD D 19 0 (D 78 0)) 78 1)) 19 2 ((sD (sD D 19 0 (D 78 0)) 19 1 ((sD D 19 0 (D 78 0)) 78 1)) 78 2)) 19 3 ((sD (sD (sD D 19 0 (D 78 0)) 19 1 ((sD D 19 0 (D 78 0)) 78 1)) 19 2 ((sD (sD D 19 0 (D 78 0)) 19 1 ((sD D 19 0 (D 78 0)) 78 1)) 78 2)) 78 3)) 19 4 ((sD (sD (sD (sD D 19 0 (D 78 0)) 19 1 ((sD D 19 0 (D 78 0)) 78 1)) 19 2 ((sD (sD D 19 0 (D 78 0)) 19 1 ((sD D 19 0 (D 78 0)) 78 1)) 78 2)) 19 3 ((sD (sD (sD D 19 0 (D 78 0)) 19 1 ((sD D 19 0 (D 78 0)) 78 1)) 19 2 ((sD (sD D 19 0 (D 78 0)) 19 1 ((sD D 19 0 (D 78 0)) 78 1)) 78 2)) 78 3)) 78 4)) 79 20 0 0 4) 80 21 0 0 4) 81 22 0 0 4) 82 23 0 0 20)), E)) rfl ?_
  refine gv_n hq 32 (S' := (167, [some (.ref 19), some (.ref 78)], [], (cD (cD (sD (cD (sD (g_People_copyOf_83 (cD (cD (cD (cD (sD (sD (sD (sD (sD D 19 0 (D 78 0)) 19 1 ((sD D 19 0 (D 78 0)) 78 1)) 19 2 ((sD (sD D 19 0 (D 78 0)) 19 1 ((sD D 19 0 (D 78 0)) 78 1)) 78 2)) 19 3 ((sD (sD (sD D 19 0 (D 78 0)) 19 1 ((sD D 19 0 (D 78 0)) 78 1)) 19 2 ((sD (sD D 19 0 (D 78 0)) 19 1 ((sD D 19 0 (D 78 0)) 78 1)) 78 2)) 78 3)) 19 4 ((sD (sD (sD (sD D 19 0 (D 78 0)) 19 1 ((sD D 19 0 (D 78 0)) 78 1)) 19 2 ((sD (sD D 19 0 (D 78 0)) 19 1 ((sD D 19 0 (D 78 0)) 78 1)) 78 2)) 19 3 ((sD (sD (sD D 19 0 (D 78 0)) 19 1 ((sD D 19 0 (D 78 0)) 78 1)) 19 2 ((sD (sD D 19 0 (D 78 0)) 19 1 ((sD D 19 0 (D 78 0)) 78 1)) 78 2)) 78 3)) 78 4)) 79 20 0 0 4) 80 21 0 0 4) 81 22 0 0 4) 82 23 0 0 20)) 19 10 ((g_People_copyOf_83 (cD (cD (cD (cD (sD (sD (sD (sD (sD D 19 0 (D 78 0)) 19 1 ((sD D 19 0 (D 78 0)) 78 1)) 19 2 ((sD (sD D 19 0 (D 78 0)) 19 1 ((sD D 19 0 (D 78 0)) 78 1)) 78 2)) 19 3 ((sD (sD (sD D 19 0 (D 78 0)) 19 1 ((sD D 19 0 (D 78 0)) 78 1)) 19 2 ((sD (sD D 19 0 (D 78 0)) 19 1 ((sD D 19 0 (D 78 0)) 78 1)) 78 2)) 78 3)) 19 4 ((sD (sD (sD (sD D 19 0 (D 78 0)) 19 1 ((sD D 19 0 (D 78 0)) 78 1)) 19 2 ((sD (sD D 19 0 (D 78 0)) 19 1 ((sD D 19 0 (D 78 0)) 78 1)) 78 2)) 19 3 ((sD (sD (sD D 19 0 (D 78 0)) 19 1 ((sD D 19 0 (D 78 0)) 78 1)) 19 2 ((sD (sD D 19 0 (D 78 0)) 19 1 ((sD D 19 0 (D 78 0)) 78 1)) 78 2)) 78 3)) 78 4)) 79 20 0 0 4) 80 21 0 0 4) 81 22 0 0 4) 82 23 0 0 20)) 78 10)) 90 31 0 0 8) 19 12 ((cD (sD (g_People_copyOf_83 (cD (cD (cD (cD (sD (sD (sD (sD (sD D 19 0 (D 78 0)) 19 1 ((sD D 19 0 (D 78 0)) 78 1)) 19 2 ((sD (sD D 19 0 (D 78 0)) 19 1 ((sD D 19 0 (D 78 0)) 78 1)) 78 2)) 19 3 ((sD (sD (sD D 19 0 (D 78 0)) 19 1 ((sD D 19 0 (D 78 0)) 78 1)) 19 2 ((sD (sD D 19 0 (D 78 0)) 19 1 ((sD D 19 0 (D 78 0)) 78 1)) 78 2)) 78 3)) 19 4 ((sD (sD (sD (sD D 19 0 (D 78 0)) 19 1 ((sD D 19 0 (D 78 0)) 78 1)) 19 2 ((sD (sD D 19 0 (D 78 0)) 19 1 ((sD D 19 0 (D 78 0)) 78 1)) 78 2)) 19 3 ((sD (sD (sD D 19 0 (D 78 0)) 19 1 ((sD D 19 0 (D 78 0)) 78 1)) 19 2 ((sD (sD D 19 0 (D 78 0)) 19 1 ((sD D 19 0 (D 78 0)) 78 1)) 78 2)) 78 3)) 78 4)) 79 20 0 0 4) 80 21 0 0 4) 81 22 0 0 4) 82 23 0 0 20)) 19 10 ((g_People_copyOf_83 (cD (cD (cD (cD (sD (sD (sD (sD (sD D 19 0 (D 78 0)) 19 1 ((sD D 19 0 (D 78 0)) 78 1)) 19 2 ((sD (sD D 19 0 (D 78 0)) 19 1 ((sD D 19 0 (D 78 0)) 78 1)) 78 2)) 19 3 ((sD (sD (sD D 19 0 (D 78 0)) 19 1 ((sD D 19 0 (D 78 0)) 78 1)) 19 2 ((sD (sD D 19 0 (D 78 0)) 19 1 ((sD D 19 0 (D 78 0)) 78 1)) 78 2)) 78 3)) 19 4 ((sD (sD (sD (sD D 19 0 (D 78 0)) 19 1 ((sD D 19 0 (D 78 0)) 78 1)) 19 2 ((sD (sD D 19 0 (D 78 0)) 19 1 ((sD D 19 0 (D 78 0)) 78 1)) 78 2)) 19 3 ((sD (sD (sD D 19 0 (D 78 0)) 19 1 ((sD D 19 0 (D 78 0)) 78 1)) 19 2 ((sD (sD D 19 0 (D 78 0)) 19 1 ((sD D 19 0 (D 78 0)) 78 1)) 78 2)) 78 3)) 78 4)) 79 20 0 0 4) 80 21 0 0 4) 81 22 0 0 4) 82 23 0 0 20)) 78 10)) 90 31 0 0 8) 78 12)) 91 32 0 0 5) 92 33 0 0 5), E)) rfl ?_
  cases h
  exact ev_ret hq rfl rfl ⟨rfl, rfl, rfl⟩
def g_People_copyOf_98 (D : mx_D) : mx_D := (sD (cD (cD (cD (cD (cD (cD D 99 25 0 0 8) 100 26 0 0 8) 101 27 0 0 8) 102 28 0 0 8) 103 29 0 0 8) 104 30 0 0 8) 24 6 ((cD (cD (cD (cD (cD (cD D 99 25 0 0 8) 100 26 0 0 8) 101 27 0 0 8) 102 28 0 0 8) 103 29 0 0 8) 104 30 0 0 8) 98 6))
theorem t_People_copyOf_98 (X : ev_X) (d : Nat) (hd : 1 ≤ d + 1) (E : mx_E) (D : mx_D) (v : mx_D) (h : g_People_copyOf_98 D = v) : ev X (d + 1) 56 (0, [some (.ref 24), some (.ref 98)], [], D, E) (qR none v E) := by
  have hq : kq_m 56 = some kq_q56 := rfl
  unfold g_People_copyOf_98 at h
  refine gv_n hq 52 (S' := (98, [some (.ref 24), some (.ref 98)], [], (sD (cD (cD (cD (cD (cD (cD D 99 25 0 0 8) 100 26 0 0 8) 101 27 0 0 8) 102 28 0 0 8) 103 29 0 0 8) 104 30 0 0 8) 24 6 ((cD (cD (cD (cD (cD (cD D 99 25 0 0 8) 100 26 0 0 8) 101 27 0 0 8) 102 28 0 0 8) 103 29 0 0 8) 104 30 0 0 8) 98 6)), E)) rfl ?_
  subst h
  exact ev_ret hq rfl rfl ⟨rfl, rfl, rfl⟩
def g_Church_copyOf_93 (D : mx_D) : Option (mx_D) := (zk ((sD (sD (sD D 19 0 (D 93 0)) 19 1 ((sD D 19 0 (D 93 0)) 93 1)) 19 2 ((sD (sD D 19 0 (D 93 0)) 19 1 ((sD D 19 0 (D 93 0)) 93 1)) 93 2)) 93 3) (some (cD (cD (sD (cD (sD (g_People_copyOf_98 (cD (cD (cD (cD (sD (sD (sD (sD (sD D 19 0 (D 93 0)) 19 1 ((sD D 19 0 (D 93 0)) 93 1)) 19 2 ((sD (sD D 19 0 (D 93 0)) 19 1 ((sD D 19 0 (D 93 0)) 93 1)) 93 2)) 19 3 ((sD (sD (sD D 19 0 (D 93 0)) 19 1 ((sD D 19 0 (D 93 0)) 93 1)) 19 2 ((sD (sD D 19 0 (D 93 0)) 19 1 ((sD D 19 0 (D 93 0)) 93 1)) 93 2)) 93 3)) 19 4 ((sD (sD (sD (sD D 19 0 (D 93 0)) 19 1 ((sD D 19 0 (D 93 0)) 93 1)) 19 2 ((sD (sD D 19 0 (D 93 0)) 19 1 ((sD D 19 0 (D 93 0)) 93 1)) 93 2)) 19 3 ((sD (sD (sD D 19 0 (D 93 0)) 19 1 ((sD D 19 0 (D 93 0)) 93 1)) 19 2 ((sD (sD D 19 0 (D 93 0)) 19 1 ((sD D 19 0 (D 93 0)) 93 1)) 93 2)) 93 3)) 93 4)) 94 20 0 0 4) 95 21 0 0 4) 96 22 0 0 4) 97 23 0 0 20)) 19 10 ((g_People_copyOf_98 (cD (cD (cD (cD (sD (sD (sD (sD (sD D 19 0 (D 93 0)) 19 1 ((sD D 19 0 (D 93 0)) 93 1)) 19 2 ((sD (sD D 19 0 (D 93 0)) 19 1 ((sD D 19 0 (D 93 0)) 93 1)) 93 2)) 19 3 ((sD (sD (sD D 19 0 (D 93 0)) 19 1 ((sD D 19 0 (D 93 0)) 93 1)) 19 2 ((sD (sD D 19 0 (D 93 0)) 19 1 ((sD D 19 0 (D 93 0)) 93 1)) 93 2)) 93 3)) 19 4 ((sD (sD (sD (sD D 19 0 (D 93 0)) 19 1 ((sD D 19 0 (D 93 0)) 93 1)) 19 2 ((sD (sD D 19 0 (D 93 0)) 19 1 ((sD D 19 0 (D 93 0)) 93 1)) 93 2)) 19 3 ((sD (sD (sD D 19 0 (D 93 0)) 19 1 ((sD D 19 0 (D 93 0)) 93 1)) 19 2 ((sD (sD D 19 0 (D 93 0)) 19 1 ((sD D 19 0 (D 93 0)) 93 1)) 93 2)) 93 3)) 93 4)) 94 20 0 0 4) 95 21 0 0 4) 96 22 0 0 4) 97 23 0 0 20)) 93 10)) 105 31 0 0 8) 19 12 ((cD (sD (g_People_copyOf_98 (cD (cD (cD (cD (sD (sD (sD (sD (sD D 19 0 (D 93 0)) 19 1 ((sD D 19 0 (D 93 0)) 93 1)) 19 2 ((sD (sD D 19 0 (D 93 0)) 19 1 ((sD D 19 0 (D 93 0)) 93 1)) 93 2)) 19 3 ((sD (sD (sD D 19 0 (D 93 0)) 19 1 ((sD D 19 0 (D 93 0)) 93 1)) 19 2 ((sD (sD D 19 0 (D 93 0)) 19 1 ((sD D 19 0 (D 93 0)) 93 1)) 93 2)) 93 3)) 19 4 ((sD (sD (sD (sD D 19 0 (D 93 0)) 19 1 ((sD D 19 0 (D 93 0)) 93 1)) 19 2 ((sD (sD D 19 0 (D 93 0)) 19 1 ((sD D 19 0 (D 93 0)) 93 1)) 93 2)) 19 3 ((sD (sD (sD D 19 0 (D 93 0)) 19 1 ((sD D 19 0 (D 93 0)) 93 1)) 19 2 ((sD (sD D 19 0 (D 93 0)) 19 1 ((sD D 19 0 (D 93 0)) 93 1)) 93 2)) 93 3)) 93 4)) 94 20 0 0 4) 95 21 0 0 4) 96 22 0 0 4) 97 23 0 0 20)) 19 10 ((g_People_copyOf_98 (cD (cD (cD (cD (sD (sD (sD (sD (sD D 19 0 (D 93 0)) 19 1 ((sD D 19 0 (D 93 0)) 93 1)) 19 2 ((sD (sD D 19 0 (D 93 0)) 19 1 ((sD D 19 0 (D 93 0)) 93 1)) 93 2)) 19 3 ((sD (sD (sD D 19 0 (D 93 0)) 19 1 ((sD D 19 0 (D 93 0)) 93 1)) 19 2 ((sD (sD D 19 0 (D 93 0)) 19 1 ((sD D 19 0 (D 93 0)) 93 1)) 93 2)) 93 3)) 19 4 ((sD (sD (sD (sD D 19 0 (D 93 0)) 19 1 ((sD D 19 0 (D 93 0)) 93 1)) 19 2 ((sD (sD D 19 0 (D 93 0)) 19 1 ((sD D 19 0 (D 93 0)) 93 1)) 93 2)) 19 3 ((sD (sD (sD D 19 0 (D 93 0)) 19 1 ((sD D 19 0 (D 93 0)) 93 1)) 19 2 ((sD (sD D 19 0 (D 93 0)) 19 1 ((sD D 19 0 (D 93 0)) 93 1)) 93 2)) 93 3)) 93 4)) 94 20 0 0 4) 95 21 0 0 4) 96 22 0 0 4) 97 23 0 0 20)) 93 10)) 105 31 0 0 8) 93 12)) 106 32 0 0 5) 107 33 0 0 5)))
theorem t_Church_copyOf_93 (X : ev_X) (d : Nat) (hd : 2 ≤ d + 1) (E : mx_E) (D : mx_D) (v : mx_D) (h : g_Church_copyOf_93 D = some v) : ev X (d + 1) 15 (0, [some (.ref 19), some (.ref 93)], [], D, E) (qR none v E) := by
  have hq : kq_m 15 = some kq_q15 := rfl
  unfold g_Church_copyOf_93 at h
  refine gv_n hq 15 (S' := (29, [some (.ref 19), some (.ref 93)], [.int ((sD (sD (sD D 19 0 (D 93 0)) 19 1 ((sD D 19 0 (D 93 0)) 93 1)) 19 2 ((sD (sD D 19 0 (D 93 0)) 19 1 ((sD D 19 0 (D 93 0)) 93 1)) 93 2)) 93 3), .ref 19], (sD (sD (sD D 19 0 (D 93 0)) 19 1 ((sD D 19 0 (D 93 0)) 93 1)) 19 2 ((sD (sD D 19 0 (D 93 0)) 19 1 ((sD D 19 0 (D 93 0)) 93 1)) 93 2)), E)) rfl ?_
  refine gv_zp hq rfl h (S' := (32, [some (.ref 19), some (.ref 93)], [], (sD (sD (sD (sD D 19 0 (D 93 0)) 19 1 ((sD D 19 0 (D 93 0)) 93 1)) 19 2 ((sD (sD D 19 0 (D 93 0)) 19 1 ((sD D 19 0 (D 93 0)) 93 1)) 93 2)) 19 3 ((sD (sD (sD D 19 0 (D 93 0)) 19 1 ((sD D 19 0 (D 93 0)) 93 1)) 19 2 ((sD (sD D 19 0 (D 93 0)) 19 1 ((sD D 19 0 (D 93 0)) 93 1)) 93 2)) 93 3)), E)) rfl (fun h => ?_)
  refine gv_n hq 40 (S' := (105, [some (.ref 19), some (.ref 93)], [.ref 98, .ref 24], (cD (cD (cD (cD (sD (sD (sD (sD (sD D 19 0 (D 93 0)) 19 1 ((sD D 19 0 (D 93 0)) 93 1)) 19 2 ((sD (sD D 19 0 (D 93 0)) 19 1 ((sD D 19 0 (D 93 0)) 93 1)) 93 2)) 19 3 ((sD (sD (sD D 19 0 (D 93 0)) 19 1 ((sD D 19 0 (D 93 0)) 93 1)) 19 2 ((sD (sD D 19 0 (D 93 0)) 19 1 ((sD D 19 0 (D 93 0)) 93 1)) 93 2)) 93 3)) 19 4 ((sD (sD (sD (sD D 19 0 (D 93 0)) 19 1 ((sD D 19 0 (D 93 0)) 93 1)) 19 2 ((sD (sD D 19 0 (D 93 0)) 19 1 ((sD D 19 0 (D 93 0)) 93 1)) 93 2)) 19 3 ((sD (sD (sD D 19 0 (D 93 0)) 19 1 ((sD D 19 0 (D 93 0)) 93 1)) 19 2 ((sD (sD D 19 0 (D 93 0)) 19 1 ((sD D 19 0 (D 93 0)) 93 1)) 93 2)) 93 3)) 93 4)) 94 20 0 0 4) 95 21 0 0 4) 96 22 0 0 4) 97 23 0 0 20), E)) rfl ?_
  refine gv_d hq rfl rfl rfl rfl rfl (gv_dd (by omega) (t_People_copyOf_98 X (d - 1) (by omega) E _ _ rfl)) (S' := (108, [some (.ref 19), some (.ref 93)], [], (g_People_copyOf_98 (cD (cD (cD (cD (sD (sD (sD (sD (sD D 19 0 (D 93 0)) 19 1 ((sD D 19 0 (D 93 0)) 93 1)) 19 2 ((sD (sD D 19 0 (D 93 0)) 19 1 ((sD D 19 0 (D 93 0)) 93 1)) 93 2)) 19 3 ((sD (sD (sD D 19 0 (D 93 0)) 19 1 ((sD D 19 0 (D 93 0)) 93 1)) 19 2 ((sD (sD D 19 0 (D 93 0)) 19 1 ((sD D 19 0 (D 93 0)) 93 1)) 93 2)) 93 3)) 19 4 ((sD (sD (sD (sD D 19 0 (D 93 0)) 19 1 ((sD D 19 0 (D 93 0)) 93 1)) 19 2 ((sD (sD D 19 0 (D 93 0)) 19 1 ((sD D 19 0 (D 93 0)) 93 1)) 93 2)) 19 3 ((sD (sD (sD D 19 0 (D 93 0)) 19 1 ((sD D 19 0 (D 93 0)) 93 1)) 19 2 ((sD (sD D 19 0 (D 93 0)) 19 1 ((sD D 19 0 (D 93 0)) 93 1)) 93 2)) 93 3)) 93 4)) 94 20 0 0 4) 95 21 0 0 4) 96 22 0 0 4) 97 23 0 0 20)), E)) rfl ?_
  refine gv_n hq 32 (S' := (167, [some (.ref 19), some (.ref 93)], [], (cD (cD (sD (cD (sD (g_People_copyOf_98 (cD (cD (cD (cD (sD (sD (sD (sD (sD D 19 0 (D 93 0)) 19 1 ((sD D 19 0 (D 93 0)) 93 1)) 19 2 ((sD (sD D 19 0 (D 93 0)) 19 1 ((sD D 19 0 (D 93 0)) 93 1)) 93 2)) 19 3 ((sD (sD (sD D 19 0 (D 93 0)) 19 1 ((sD D 19 0 (D 93 0)) 93 1)) 19 2 ((sD (sD D 19 0 (D 93 0)) 19 1 ((sD D 19 0 (D 93 0)) 93 1)) 93 2)) 93 3)) 19 4 ((sD (sD (sD (sD D 19 0 (D 93 0)) 19 1 ((sD D 19 0 (D 93 0)) 93 1)) 19 2 ((sD (sD D 19 0 (D 93 0)) 19 1 ((sD D 19 0 (D 93 0)) 93 1)) 93 2)) 19 3 ((sD (sD (sD D 19 0 (D 93 0)) 19 1 ((sD D 19 0 (D 93 0)) 93 1)) 19 2 ((sD (sD D 19 0 (D 93 0)) 19 1 ((sD D 19 0 (D 93 0)) 93 1)) 93 2)) 93 3)) 93 4)) 94 20 0 0 4) 95 21 0 0 4) 96 22 0 0 4) 97 23 0 0 20)) 19 10 ((g_People_copyOf_98 (cD (cD (cD (cD (sD (sD (sD (sD (sD D 19 0 (D 93 0)) 19 1 ((sD D 19 0 (D 93 0)) 93 1)) 19 2 ((sD (sD D 19 0 (D 93 0)) 19 1 ((sD D 19 0 (D 93 0)) 93 1)) 93 2)) 19 3 ((sD (sD (sD D 19 0 (D 93 0)) 19 1 ((sD D 19 0 (D 93 0)) 93 1)) 19 2 ((sD (sD D 19 0 (D 93 0)) 19 1 ((sD D 19 0 (D 93 0)) 93 1)) 93 2)) 93 3)) 19 4 ((sD (sD (sD (sD D 19 0 (D 93 0)) 19 1 ((sD D 19 0 (D 93 0)) 93 1)) 19 2 ((sD (sD D 19 0 (D 93 0)) 19 1 ((sD D 19 0 (D 93 0)) 93 1)) 93 2)) 19 3 ((sD (sD (sD D 19 0 (D 93 0)) 19 1 ((sD D 19 0 (D 93 0)) 93 1)) 19 2 ((sD (sD D 19 0 (D 93 0)) 19 1 ((sD D 19 0 (D 93 0)) 93 1)) 93 2)) 93 3)) 93 4)) 94 20 0 0 4) 95 21 0 0 4) 96 22 0 0 4) 97 23 0 0 20)) 93 10)) 105 31 0 0 8) 19 12 ((cD (sD (g_People_copyOf_98 (cD (cD (cD (cD (sD (sD (sD (sD (sD D 19 0 (D 93 0)) 19 1 ((sD D 19 0 (D 93 0)) 93 1)) 19 2 ((sD (sD D 19 0 (D 93 0)) 19 1 ((sD D 19 0 (D 93 0)) 93 1)) 93 2)) 19 3 ((sD (sD (sD D 19 0 (D 93 0)) 19 1 ((sD D 19 0 (D 93 0)) 93 1)) 19 2 ((sD (sD D 19 0 (D 93 0)) 19 1 ((sD D 19 0 (D 93 0)) 93 1)) 93 2)) 93 3)) 19 4 ((sD (sD (sD (sD D 19 0 (D 93 0)) 19 1 ((sD D 19 0 (D 93 0)) 93 1)) 19 2 ((sD (sD D 19 0 (D 93 0)) 19 1 ((sD D 19 0 (D 93 0)) 93 1)) 93 2)) 19 3 ((sD (sD (sD D 19 0 (D 93 0)) 19 1 ((sD D 19 0 (D 93 0)) 93 1)) 19 2 ((sD (sD D 19 0 (D 93 0)) 19 1 ((sD D 19 0 (D 93 0)) 93 1)) 93 2)) 93 3)) 93 4)) 94 20 0 0 4) 95 21 0 0 4) 96 22 0 0 4) 97 23 0 0 20)) 19 10 ((g_People_copyOf_98 (cD (cD (cD (cD (sD (sD (sD (sD (sD D 19 0 (D 93 0)) 19 1 ((sD D 19 0 (D 93 0)) 93 1)) 19 2 ((sD (sD D 19 0 (D 93 0)) 19 1 ((sD D 19 0 (D 93 0)) 93 1)) 93 2)) 19 3 ((sD (sD (sD D 19 0 (D 93 0)) 19 1 ((sD D 19 0 (D 93 0)) 93 1)) 19 2 ((sD (sD D 19 0 (D 93 0)) 19 1 ((sD D 19 0 (D 93 0)) 93 1)) 93 2)) 93 3)) 19 4 ((sD (sD (sD (sD D 19 0 (D 93 0)) 19 1 ((sD D 19 0 (D 93 0)) 93 1)) 19 2 ((sD (sD D 19 0 (D 93 0)) 19 1 ((sD D 19 0 (D 93 0)) 93 1)) 93 2)) 19 3 ((sD (sD (sD D 19 0 (D 93 0)) 19 1 ((sD D 19 0 (D 93 0)) 93 1)) 19 2 ((sD (sD D 19 0 (D 93 0)) 19 1 ((sD D 19 0 (D 93 0)) 93 1)) 93 2)) 93 3)) 93 4)) 94 20 0 0 4) 95 21 0 0 4) 96 22 0 0 4) 97 23 0 0 20)) 93 10)) 105 31 0 0 8) 93 12)) 106 32 0 0 5) 107 33 0 0 5), E)) rfl ?_
  cases h
  exact ev_ret hq rfl rfl ⟨rfl, rfl, rfl⟩
def g_X_back (a1 : Int32) (D : mx_D) : Option (Int32 × mx_D) := (if a1 < 0 then (some ((-2 : Int32), D)) else (if a1 < (nI 3) then (rk 3 a1 (if (D 61 (a1).toNatClampNeg) = 0 then (some ((-6 : Int32), D)) else (if a1 = (nI 0) then (Option.bind (g_Church_copyOf_63 D) (fun r1 => (some ((nI 0), r1)))) else (if a1 = (nI 1) then (Option.bind (g_Church_copyOf_78 D) (fun r2 => (some ((nI 0), r2)))) else (if a1 = (nI 2) then (Option.bind (g_Church_copyOf_93 D) (fun r3 => (some ((nI 0), r3)))) else none))))) else (some ((-2 : Int32), D))))
theorem t_X_back (X : ev_X) (d : Nat) (hd : 3 ≤ d + 1) (E : mx_E) (a1 : Int32) (D : mx_D) (v : Int32 × mx_D) (h : g_X_back a1 D = some v) : ev X (d + 1) 177 (0, [some (.ref 0), some (.int a1)], [], D, E) (qR (some (.int v.1)) v.2 E) := by
  have hq : kq_m 177 = some kq_q177 := rfl
  unfold g_X_back at h
  refine gv_n hq 1 (S' := (1, [some (.ref 0), some (.int a1)], [.int a1], D, E)) rfl ?_
  refine gv_b hq rfl h 9 4 rfl rfl rfl (fun h => ?_) (fun h => ?_)
  · refine gv_n hq 1 (S' := (11, [some (.ref 0), some (.int a1)], [.int (-2 : Int32)], D, E)) rfl ?_
    cases h
    exact ev_ret hq rfl rfl ⟨rfl, rfl, rfl⟩
  · refine gv_n hq 2 (S' := (6, [some (.ref 0), some (.int a1)], [.int (nI 3), .int a1], D, E)) rfl ?_
    refine gv_b hq rfl h 12 9 rfl rfl rfl (fun h => ?_) (fun h => ?_)
    · refine gv_n hq 3 (S' := (17, [some (.ref 0), some (.int a1)], [.int a1, .ref 61], D, E)) rfl ?_
      refine gv_ba2 hq rfl rfl h 18 rfl (fun h => ?_)
      refine gv_b hq rfl h 21 24 rfl rfl rfl (fun h => ?_) (fun h => ?_)
      · refine gv_n hq 1 (S' := (23, [some (.ref 0), some (.int a1)], [.int (-6 : Int32)], D, E)) rfl ?_
        cases h
        exact ev_ret hq rfl rfl ⟨rfl, rfl, rfl⟩
      · refine gv_n hq 5 (S' := (33, [some (.ref 0), some (.int a1)], [.int a1, .ref 60, .ref 19], D, E)) rfl ?_
        refine gv_if h (fun c0 h => ?_) (fun c0 h => ?_)
        · refine ev_ins hq rfl (S' := (34, [some (.ref 0), some (.int a1)], [.ref 63, .ref 19], D, E)) (gv_sw (fun z => ((33, [some (.ref 0), some (.int a1)], .int z :: [.ref 60, .ref 19], D, E) : mx_S)) c0 rfl) ?_
          obtain ⟨r1, h1, h⟩ := Option.bind_eq_some_iff.mp h
          refine gv_d hq rfl rfl rfl rfl rfl (gv_dd (by omega) (t_Church_copyOf_63 X (d - 1) (by omega) E _ _ h1)) (S' := (37, [some (.ref 0), some (.int a1)], [], r1, E)) rfl ?_
          refine gv_n hq 1 (S' := (38, [some (.ref 0), some (.int a1)], [.int (nI 0)], r1, E)) rfl ?_
          cases h
          exact ev_ret hq rfl rfl ⟨rfl, rfl, rfl⟩
        · refine gv_if h (fun c1 h => ?_) (fun c1 h => ?_)
          · refine ev_ins hq rfl (S' := (34, [some (.ref 0), some (.int a1)], [.ref 78, .ref 19], D, E)) (gv_sw (fun z => ((33, [some (.ref 0), some (.int a1)], .int z :: [.ref 60, .ref 19], D, E) : mx_S)) c1 rfl) ?_
            obtain ⟨r2, h1, h⟩ := Option.bind_eq_some_iff.mp h
            refine gv_d hq rfl rfl rfl rfl rfl (gv_dd (by omega) (t_Church_copyOf_78 X (d - 1) (by omega) E _ _ h1)) (S' := (37, [some (.ref 0), some (.int a1)], [], r2, E)) rfl ?_
            refine gv_n hq 1 (S' := (38, [some (.ref 0), some (.int a1)], [.int (nI 0)], r2, E)) rfl ?_
            cases h
            exact ev_ret hq rfl rfl ⟨rfl, rfl, rfl⟩
          · refine gv_if h (fun c2 h => ?_) (fun c2 h => ?_)
            · refine ev_ins hq rfl (S' := (34, [some (.ref 0), some (.int a1)], [.ref 93, .ref 19], D, E)) (gv_sw (fun z => ((33, [some (.ref 0), some (.int a1)], .int z :: [.ref 60, .ref 19], D, E) : mx_S)) c2 rfl) ?_
              obtain ⟨r3, h1, h⟩ := Option.bind_eq_some_iff.mp h
              refine gv_d hq rfl rfl rfl rfl rfl (gv_dd (by omega) (t_Church_copyOf_93 X (d - 1) (by omega) E _ _ h1)) (S' := (37, [some (.ref 0), some (.int a1)], [], r3, E)) rfl ?_
              refine gv_n hq 1 (S' := (38, [some (.ref 0), some (.int a1)], [.int (nI 0)], r3, E)) rfl ?_
              cases h
              exact ev_ret hq rfl rfl ⟨rfl, rfl, rfl⟩
            · cases h
    · refine gv_n hq 1 (S' := (11, [some (.ref 0), some (.int a1)], [.int (-2 : Int32)], D, E)) rfl ?_
      cases h
      exact ev_ret hq rfl rfl ⟨rfl, rfl, rfl⟩
def b_M_back_29 (F : Nat) (k29 : Int32 → Int32 → mx_D → Option (Int32 × mx_D)) (l1 : Int32) (l2 : Int32) (D : mx_D) : Option (Int32 × mx_D) := (if (nI 106) ≤ l2 then (some ((nI 0), D)) else (rk 318 (((nI 106) * l1) + l2) (rk 106 l2 (k29 l1 (l2 + (nI 1)) (sD D 117 (l2).toNatClampNeg (D 118 ((((nI 106) * l1) + l2)).toNatClampNeg))))))
theorem tb_M_back_29 (X : ev_X) (F : Nat) (d : Nat) (hd : 1 ≤ d + 1) (E : mx_E) (k29 : Int32 → Int32 → mx_D → Option (Int32 × mx_D)) (K29 : ∀ (l1 : Int32) (l2 : Int32) (D : mx_D) (v : Int32 × mx_D), k29 l1 l2 D = some v → ev X (d + 1) 184 (29, [some (.ref 116), some (.int l1), some (.int l2)], [], D, E) (qR (some (.int v.1)) v.2 E)) (l1 : Int32) (l2 : Int32) (D : mx_D) (v : Int32 × mx_D) (h : b_M_back_29 F k29 l1 l2 D = some v) : ev X (d + 1) 184 (29, [some (.ref 116), some (.int l1), some (.int l2)], [], D, E) (qR (some (.int v.1)) v.2 E) := by
  have hq : kq_m 184 = some kq_q184 := rfl
  unfold b_M_back_29 at h
  refine gv_n hq 2 (S' := (32, [some (.ref 116), some (.int l1), some (.int l2)], [.int (nI 106), .int l2], D, E)) rfl ?_
  refine gv_b hq rfl h 58 35 rfl rfl rfl (fun h => ?_) (fun h => ?_)
  · refine gv_n hq 1 (S' := (59, [some (.ref 116), some (.int l1), some (.int l2)], [.int (nI 0)], D, E)) rfl ?_
    cases h
    exact ev_ret hq rfl rfl ⟨rfl, rfl, rfl⟩
  · refine gv_n hq 10 (S' := (50, [some (.ref 116), some (.int l1), some (.int l2)], [.int (((nI 106) * l1) + l2), .ref 118, .int l2, .ref 117], D, E)) rfl ?_
    refine gv_ia hq rfl rfl rfl h 51 rfl (fun h => ?_)
    refine gv_is hq rfl rfl h 52 rfl (fun h => ?_)
    refine gv_n hq 2 (S' := (29, [some (.ref 116), some (.int l1), some (.int (l2 + (nI 1)))], [], (sD D 117 (l2).toNatClampNeg (D 118 ((((nI 106) * l1) + l2)).toNatClampNeg)), E)) rfl ?_
    exact gv_w (K29 _ _ _ _ h) (And.intro rfl (And.intro rfl (And.intro rfl trivial)))
def g_M_back_29 (F : Nat) : Nat → Int32 → Int32 → mx_D → Option (Int32 × mx_D) := it (fun k29 => b_M_back_29 F k29) (fun _ _ _ => none)
theorem t_M_back_29 (X : ev_X) (F : Nat) (d : Nat) (hd : 1 ≤ d + 1) (E : mx_E)  : ∀ (n : Nat) (l1 : Int32) (l2 : Int32) (D : mx_D) (v : Int32 × mx_D), g_M_back_29 F n l1 l2 D = some v → ev X (d + 1) 184 (29, [some (.ref 116), some (.int l1), some (.int l2)], [], D, E) (qR (some (.int v.1)) v.2 E) := by
  intro n
  induction n with
  | zero => intro l1 l2 D v h; cases h
  | succ n ih => intro l1 l2 D v h; exact tb_M_back_29 X F d hd E (g_M_back_29 F n) ih l1 l2 D v h
def g_M_back (F : Nat) (a1 : Int32) (D : mx_D) : Option (Int32 × mx_D) := (if (g_M_in ((a1).toInt64) (lN 0) (2 : Int64)) = 0 then (some ((-2 : Int32), D)) else (rk 3 a1 (if (D 119 (a1).toNatClampNeg) = 0 then (some ((-6 : Int32), D)) else (g_M_back_29 F F a1 (nI 0) D))))
theorem t_M_back (X : ev_X) (F : Nat) (d : Nat) (hd : 1 ≤ d + 1) (E : mx_E) (a1 : Int32) (D : mx_D) (v : Int32 × mx_D) (h : g_M_back F a1 D = some v) : ev X (d + 1) 184 (0, [some (.ref 116), some (.int a1), none], [], D, E) (qR (some (.int v.1)) v.2 E) := by
  have hq : kq_m 184 = some kq_q184 := rfl
  unfold g_M_back at h
  refine gv_n hq 4 (S' := (6, [some (.ref 116), some (.int a1), none], [.long (2 : Int64), .long (lN 0), .long ((a1).toInt64)], D, E)) rfl ?_
  refine gv_d hq rfl rfl rfl rfl rfl ((t_M_in X d D E _ _ _ _ rfl)) (S' := (9, [some (.ref 116), some (.int a1), none], [.int (g_M_in ((a1).toInt64) (lN 0) (2 : Int64))], D, E)) rfl ?_
  refine gv_b hq rfl h 12 15 rfl rfl rfl (fun h => ?_) (fun h => ?_)
  · refine gv_n hq 1 (S' := (14, [some (.ref 116), some (.int a1), none], [.int (-2 : Int32)], D, E)) rfl ?_
    cases h
    exact ev_ret hq rfl rfl ⟨rfl, rfl, rfl⟩
  · refine gv_n hq 3 (S' := (20, [some (.ref 116), some (.int a1), none], [.int a1, .ref 119], D, E)) rfl ?_
    refine gv_ba2 hq rfl rfl h 21 rfl (fun h => ?_)
    refine gv_b hq rfl h 24 27 rfl rfl rfl (fun h => ?_) (fun h => ?_)
    · refine gv_n hq 1 (S' := (26, [some (.ref 116), some (.int a1), none], [.int (-6 : Int32)], D, E)) rfl ?_
      cases h
      exact ev_ret hq rfl rfl ⟨rfl, rfl, rfl⟩
    · refine gv_n hq 2 (S' := (29, [some (.ref 116), some (.int a1), some (.int (nI 0))], [], D, E)) rfl ?_
      exact gv_w (t_M_back_29 X F d hd E F _ _ _ _ h) (And.intro rfl (And.intro rfl (And.intro rfl trivial)))
def b_Arrays_fill2_109_6 (F : Nat) (k6 : Int64 → Int32 → Int32 → mx_E → Option (mx_E)) (l1 : Int64) (l3 : Int32) (l4 : Int32) (E : mx_E) : Option (mx_E) := (if l4 ≤ l3 then (some E) else (rk 60 l3 (k6 l1 (l3 + (nI 1)) l4 (sE E 109 (l3).toNatClampNeg l1))))
theorem tb_Arrays_fill2_109_6 (X : ev_X) (F : Nat) (d : Nat) (D : mx_D) (k6 : Int64 → Int32 → Int32 → mx_E → Option (mx_E)) (K6 : ∀ (l1 : Int64) (l3 : Int32) (l4 : Int32) (E : mx_E) (v : mx_E), k6 l1 l3 l4 E = some v → ev X d 334 (6, [some (.ref 109), some (.long l1), none, some (.int l3), some (.int l4)], [], D, E) (qR none D v)) (l1 : Int64) (l3 : Int32) (l4 : Int32) (E : mx_E) (v : mx_E) (h : b_Arrays_fill2_109_6 F k6 l1 l3 l4 E = some v) : ev X d 334 (6, [some (.ref 109), some (.long l1), none, some (.int l3), some (.int l4)], [], D, E) (qR none D v) := by
  have hq : kq_m 334 = some kq_q334 := rfl
  unfold b_Arrays_fill2_109_6 at h
  refine gv_n hq 2 (S' := (9, [some (.ref 109), some (.long l1), none, some (.int l3), some (.int l4)], [.int l4, .int l3], D, E)) rfl ?_
  refine gv_b hq rfl h 22 12 rfl rfl rfl (fun h => ?_) (fun h => ?_)
  · cases h
    exact ev_ret hq rfl rfl ⟨rfl, rfl, rfl⟩
  · refine gv_n hq 3 (S' := (15, [some (.ref 109), some (.long l1), none, some (.int l3), some (.int l4)], [.long l1, .int l3, .ref 109], D, E)) rfl ?_
    refine gv_ls hq rfl rfl h 16 rfl (fun h => ?_)
    refine gv_n hq 2 (S' := (6, [some (.ref 109), some (.long l1), none, some (.int (l3 + (nI 1))), some (.int l4)], [], D, (sE E 109 (l3).toNatClampNeg l1))) rfl ?_
    exact gv_w (K6 _ _ _ _ _ h) (And.intro rfl (And.intro rfl (And.intro rfl (And.intro rfl trivial))))
def g_Arrays_fill2_109_6 (F : Nat) : Nat → Int64 → Int32 → Int32 → mx_E → Option (mx_E) := it (fun k6 => b_Arrays_fill2_109_6 F k6) (fun _ _ _ _ => none)
theorem t_Arrays_fill2_109_6 (X : ev_X) (F : Nat) (d : Nat) (D : mx_D)  : ∀ (n : Nat) (l1 : Int64) (l3 : Int32) (l4 : Int32) (E : mx_E) (v : mx_E), g_Arrays_fill2_109_6 F n l1 l3 l4 E = some v → ev X d 334 (6, [some (.ref 109), some (.long l1), none, some (.int l3), some (.int l4)], [], D, E) (qR none D v) := by
  intro n
  induction n with
  | zero => intro l1 l3 l4 E v h; cases h
  | succ n ih => intro l1 l3 l4 E v h; exact tb_Arrays_fill2_109_6 X F d D (g_Arrays_fill2_109_6 F n) ih l1 l3 l4 E v h
def g_Arrays_fill2_109 (F : Nat) (a1 : Int64) (E : mx_E) : Option (mx_E) := (g_Arrays_fill2_109_6 F F a1 (nI 0) (nI 60) E)
theorem t_Arrays_fill2_109 (X : ev_X) (F : Nat) (d : Nat) (D : mx_D) (a1 : Int64) (E : mx_E) (v : mx_E) (h : g_Arrays_fill2_109 F a1 E = some v) : ev X d 334 (0, [some (.ref 109), some (.long a1), none, none, none], [], D, E) (qR none D v) := by
  have hq : kq_m 334 = some kq_q334 := rfl
  unfold g_Arrays_fill2_109 at h
  refine gv_n hq 5 (S' := (6, [some (.ref 109), some (.long a1), none, some (.int (nI 0)), some (.int (nI 60))], [], D, E)) rfl ?_
  exact gv_w (t_Arrays_fill2_109_6 X F d D F _ _ _ _ _ h) (And.intro rfl (And.intro rfl (And.intro rfl (And.intro rfl trivial))))
def g_Row_begin_108 (F : Nat) (a1 : Int32) (a2 : Int32) (D : mx_D) (E : mx_E) : Option (mx_D × mx_E) := (Option.bind (g_Arrays_fill2_109 F (lN 0) E) (fun r1 => (some ((sD (sD (sD D 108 1 (nI 1)) 108 2 a1) 108 3 a2), r1))))
theorem t_Row_begin_108 (X : ev_X) (F : Nat) (d : Nat) (hd : 1 ≤ d + 1) (a1 : Int32) (a2 : Int32) (D : mx_D) (E : mx_E) (v : mx_D × mx_E) (h : g_Row_begin_108 F a1 a2 D E = some v) : ev X (d + 1) 79 (0, [some (.ref 108), some (.int a1), some (.int a2)], [], D, E) (qR none v.1 v.2) := by
  have hq : kq_m 79 = some kq_q79 := rfl
  unfold g_Row_begin_108 at h
  refine gv_n hq 12 (S' := (20, [some (.ref 108), some (.int a1), some (.int a2)], [.long (lN 0), .ref 109], (sD (sD (sD D 108 1 (nI 1)) 108 2 a1) 108 3 a2), E)) rfl ?_
  obtain ⟨r1, h1, h⟩ := Option.bind_eq_some_iff.mp h
  refine gv_d hq rfl rfl rfl rfl rfl ((t_Arrays_fill2_109 X F d (sD (sD (sD D 108 1 (nI 1)) 108 2 a1) 108 3 a2) _ _ _ h1)) (S' := (23, [some (.ref 108), some (.int a1), some (.int a2)], [], (sD (sD (sD D 108 1 (nI 1)) 108 2 a1) 108 3 a2), r1)) rfl ?_
  cases h
  exact ev_ret hq rfl rfl ⟨rfl, rfl, rfl⟩
def b_Arrays_fill2_111_6 (F : Nat) (k6 : Int64 → Int32 → Int32 → mx_E → Option (mx_E)) (l1 : Int64) (l3 : Int32) (l4 : Int32) (E : mx_E) : Option (mx_E) := (if l4 ≤ l3 then (some E) else (rk 60 l3 (k6 l1 (l3 + (nI 1)) l4 (sE E 111 (l3).toNatClampNeg l1))))
theorem tb_Arrays_fill2_111_6 (X : ev_X) (F : Nat) (d : Nat) (D : mx_D) (k6 : Int64 → Int32 → Int32 → mx_E → Option (mx_E)) (K6 : ∀ (l1 : Int64) (l3 : Int32) (l4 : Int32) (E : mx_E) (v : mx_E), k6 l1 l3 l4 E = some v → ev X d 334 (6, [some (.ref 111), some (.long l1), none, some (.int l3), some (.int l4)], [], D, E) (qR none D v)) (l1 : Int64) (l3 : Int32) (l4 : Int32) (E : mx_E) (v : mx_E) (h : b_Arrays_fill2_111_6 F k6 l1 l3 l4 E = some v) : ev X d 334 (6, [some (.ref 111), some (.long l1), none, some (.int l3), some (.int l4)], [], D, E) (qR none D v) := by
  have hq : kq_m 334 = some kq_q334 := rfl
  unfold b_Arrays_fill2_111_6 at h
  refine gv_n hq 2 (S' := (9, [some (.ref 111), some (.long l1), none, some (.int l3), some (.int l4)], [.int l4, .int l3], D, E)) rfl ?_
  refine gv_b hq rfl h 22 12 rfl rfl rfl (fun h => ?_) (fun h => ?_)
  · cases h
    exact ev_ret hq rfl rfl ⟨rfl, rfl, rfl⟩
  · refine gv_n hq 3 (S' := (15, [some (.ref 111), some (.long l1), none, some (.int l3), some (.int l4)], [.long l1, .int l3, .ref 111], D, E)) rfl ?_
    refine gv_ls hq rfl rfl h 16 rfl (fun h => ?_)
    refine gv_n hq 2 (S' := (6, [some (.ref 111), some (.long l1), none, some (.int (l3 + (nI 1))), some (.int l4)], [], D, (sE E 111 (l3).toNatClampNeg l1))) rfl ?_
    exact gv_w (K6 _ _ _ _ _ h) (And.intro rfl (And.intro rfl (And.intro rfl (And.intro rfl trivial))))
def g_Arrays_fill2_111_6 (F : Nat) : Nat → Int64 → Int32 → Int32 → mx_E → Option (mx_E) := it (fun k6 => b_Arrays_fill2_111_6 F k6) (fun _ _ _ _ => none)
theorem t_Arrays_fill2_111_6 (X : ev_X) (F : Nat) (d : Nat) (D : mx_D)  : ∀ (n : Nat) (l1 : Int64) (l3 : Int32) (l4 : Int32) (E : mx_E) (v : mx_E), g_Arrays_fill2_111_6 F n l1 l3 l4 E = some v → ev X d 334 (6, [some (.ref 111), some (.long l1), none, some (.int l3), some (.int l4)], [], D, E) (qR none D v) := by
  intro n
  induction n with
  | zero => intro l1 l3 l4 E v h; cases h
  | succ n ih => intro l1 l3 l4 E v h; exact tb_Arrays_fill2_111_6 X F d D (g_Arrays_fill2_111_6 F n) ih l1 l3 l4 E v h
def g_Arrays_fill2_111 (F : Nat) (a1 : Int64) (E : mx_E) : Option (mx_E) := (g_Arrays_fill2_111_6 F F a1 (nI 0) (nI 60) E)
theorem t_Arrays_fill2_111 (X : ev_X) (F : Nat) (d : Nat) (D : mx_D) (a1 : Int64) (E : mx_E) (v : mx_E) (h : g_Arrays_fill2_111 F a1 E = some v) : ev X d 334 (0, [some (.ref 111), some (.long a1), none, none, none], [], D, E) (qR none D v) := by
  have hq : kq_m 334 = some kq_q334 := rfl
  unfold g_Arrays_fill2_111 at h
  refine gv_n hq 5 (S' := (6, [some (.ref 111), some (.long a1), none, some (.int (nI 0)), some (.int (nI 60))], [], D, E)) rfl ?_
  exact gv_w (t_Arrays_fill2_111_6 X F d D F _ _ _ _ _ h) (And.intro rfl (And.intro rfl (And.intro rfl (And.intro rfl trivial))))
def g_Row_begin_110 (F : Nat) (a1 : Int32) (a2 : Int32) (D : mx_D) (E : mx_E) : Option (mx_D × mx_E) := (Option.bind (g_Arrays_fill2_111 F (lN 0) E) (fun r1 => (some ((sD (sD (sD D 110 1 (nI 1)) 110 2 a1) 110 3 a2), r1))))
theorem t_Row_begin_110 (X : ev_X) (F : Nat) (d : Nat) (hd : 1 ≤ d + 1) (a1 : Int32) (a2 : Int32) (D : mx_D) (E : mx_E) (v : mx_D × mx_E) (h : g_Row_begin_110 F a1 a2 D E = some v) : ev X (d + 1) 79 (0, [some (.ref 110), some (.int a1), some (.int a2)], [], D, E) (qR none v.1 v.2) := by
  have hq : kq_m 79 = some kq_q79 := rfl
  unfold g_Row_begin_110 at h
  refine gv_n hq 12 (S' := (20, [some (.ref 110), some (.int a1), some (.int a2)], [.long (lN 0), .ref 111], (sD (sD (sD D 110 1 (nI 1)) 110 2 a1) 110 3 a2), E)) rfl ?_
  obtain ⟨r1, h1, h⟩ := Option.bind_eq_some_iff.mp h
  refine gv_d hq rfl rfl rfl rfl rfl ((t_Arrays_fill2_111 X F d (sD (sD (sD D 110 1 (nI 1)) 110 2 a1) 110 3 a2) _ _ _ h1)) (S' := (23, [some (.ref 110), some (.int a1), some (.int a2)], [], (sD (sD (sD D 110 1 (nI 1)) 110 2 a1) 110 3 a2), r1)) rfl ?_
  cases h
  exact ev_ret hq rfl rfl ⟨rfl, rfl, rfl⟩
def b_Arrays_fill2_113_6 (F : Nat) (k6 : Int64 → Int32 → Int32 → mx_E → Option (mx_E)) (l1 : Int64) (l3 : Int32) (l4 : Int32) (E : mx_E) : Option (mx_E) := (if l4 ≤ l3 then (some E) else (rk 60 l3 (k6 l1 (l3 + (nI 1)) l4 (sE E 113 (l3).toNatClampNeg l1))))
theorem tb_Arrays_fill2_113_6 (X : ev_X) (F : Nat) (d : Nat) (D : mx_D) (k6 : Int64 → Int32 → Int32 → mx_E → Option (mx_E)) (K6 : ∀ (l1 : Int64) (l3 : Int32) (l4 : Int32) (E : mx_E) (v : mx_E), k6 l1 l3 l4 E = some v → ev X d 334 (6, [some (.ref 113), some (.long l1), none, some (.int l3), some (.int l4)], [], D, E) (qR none D v)) (l1 : Int64) (l3 : Int32) (l4 : Int32) (E : mx_E) (v : mx_E) (h : b_Arrays_fill2_113_6 F k6 l1 l3 l4 E = some v) : ev X d 334 (6, [some (.ref 113), some (.long l1), none, some (.int l3), some (.int l4)], [], D, E) (qR none D v) := by
  have hq : kq_m 334 = some kq_q334 := rfl
  unfold b_Arrays_fill2_113_6 at h
  refine gv_n hq 2 (S' := (9, [some (.ref 113), some (.long l1), none, some (.int l3), some (.int l4)], [.int l4, .int l3], D, E)) rfl ?_
  refine gv_b hq rfl h 22 12 rfl rfl rfl (fun h => ?_) (fun h => ?_)
  · cases h
    exact ev_ret hq rfl rfl ⟨rfl, rfl, rfl⟩
  · refine gv_n hq 3 (S' := (15, [some (.ref 113), some (.long l1), none, some (.int l3), some (.int l4)], [.long l1, .int l3, .ref 113], D, E)) rfl ?_
    refine gv_ls hq rfl rfl h 16 rfl (fun h => ?_)
    refine gv_n hq 2 (S' := (6, [some (.ref 113), some (.long l1), none, some (.int (l3 + (nI 1))), some (.int l4)], [], D, (sE E 113 (l3).toNatClampNeg l1))) rfl ?_
    exact gv_w (K6 _ _ _ _ _ h) (And.intro rfl (And.intro rfl (And.intro rfl (And.intro rfl trivial))))
def g_Arrays_fill2_113_6 (F : Nat) : Nat → Int64 → Int32 → Int32 → mx_E → Option (mx_E) := it (fun k6 => b_Arrays_fill2_113_6 F k6) (fun _ _ _ _ => none)
theorem t_Arrays_fill2_113_6 (X : ev_X) (F : Nat) (d : Nat) (D : mx_D)  : ∀ (n : Nat) (l1 : Int64) (l3 : Int32) (l4 : Int32) (E : mx_E) (v : mx_E), g_Arrays_fill2_113_6 F n l1 l3 l4 E = some v → ev X d 334 (6, [some (.ref 113), some (.long l1), none, some (.int l3), some (.int l4)], [], D, E) (qR none D v) := by
  intro n
  induction n with
  | zero => intro l1 l3 l4 E v h; cases h
  | succ n ih => intro l1 l3 l4 E v h; exact tb_Arrays_fill2_113_6 X F d D (g_Arrays_fill2_113_6 F n) ih l1 l3 l4 E v h
def g_Arrays_fill2_113 (F : Nat) (a1 : Int64) (E : mx_E) : Option (mx_E) := (g_Arrays_fill2_113_6 F F a1 (nI 0) (nI 60) E)
theorem t_Arrays_fill2_113 (X : ev_X) (F : Nat) (d : Nat) (D : mx_D) (a1 : Int64) (E : mx_E) (v : mx_E) (h : g_Arrays_fill2_113 F a1 E = some v) : ev X d 334 (0, [some (.ref 113), some (.long a1), none, none, none], [], D, E) (qR none D v) := by
  have hq : kq_m 334 = some kq_q334 := rfl
  unfold g_Arrays_fill2_113 at h
  refine gv_n hq 5 (S' := (6, [some (.ref 113), some (.long a1), none, some (.int (nI 0)), some (.int (nI 60))], [], D, E)) rfl ?_
  exact gv_w (t_Arrays_fill2_113_6 X F d D F _ _ _ _ _ h) (And.intro rfl (And.intro rfl (And.intro rfl (And.intro rfl trivial))))
def g_Row_begin_112 (F : Nat) (a1 : Int32) (a2 : Int32) (D : mx_D) (E : mx_E) : Option (mx_D × mx_E) := (Option.bind (g_Arrays_fill2_113 F (lN 0) E) (fun r1 => (some ((sD (sD (sD D 112 1 (nI 1)) 112 2 a1) 112 3 a2), r1))))
theorem t_Row_begin_112 (X : ev_X) (F : Nat) (d : Nat) (hd : 1 ≤ d + 1) (a1 : Int32) (a2 : Int32) (D : mx_D) (E : mx_E) (v : mx_D × mx_E) (h : g_Row_begin_112 F a1 a2 D E = some v) : ev X (d + 1) 79 (0, [some (.ref 112), some (.int a1), some (.int a2)], [], D, E) (qR none v.1 v.2) := by
  have hq : kq_m 79 = some kq_q79 := rfl
  unfold g_Row_begin_112 at h
  refine gv_n hq 12 (S' := (20, [some (.ref 112), some (.int a1), some (.int a2)], [.long (lN 0), .ref 113], (sD (sD (sD D 112 1 (nI 1)) 112 2 a1) 112 3 a2), E)) rfl ?_
  obtain ⟨r1, h1, h⟩ := Option.bind_eq_some_iff.mp h
  refine gv_d hq rfl rfl rfl rfl rfl ((t_Arrays_fill2_113 X F d (sD (sD (sD D 112 1 (nI 1)) 112 2 a1) 112 3 a2) _ _ _ h1)) (S' := (23, [some (.ref 112), some (.int a1), some (.int a2)], [], (sD (sD (sD D 112 1 (nI 1)) 112 2 a1) 112 3 a2), r1)) rfl ?_
  cases h
  exact ev_ret hq rfl rfl ⟨rfl, rfl, rfl⟩
def b_Arrays_fill2_115_6 (F : Nat) (k6 : Int64 → Int32 → Int32 → mx_E → Option (mx_E)) (l1 : Int64) (l3 : Int32) (l4 : Int32) (E : mx_E) : Option (mx_E) := (if l4 ≤ l3 then (some E) else (rk 60 l3 (k6 l1 (l3 + (nI 1)) l4 (sE E 115 (l3).toNatClampNeg l1))))
theorem tb_Arrays_fill2_115_6 (X : ev_X) (F : Nat) (d : Nat) (D : mx_D) (k6 : Int64 → Int32 → Int32 → mx_E → Option (mx_E)) (K6 : ∀ (l1 : Int64) (l3 : Int32) (l4 : Int32) (E : mx_E) (v : mx_E), k6 l1 l3 l4 E = some v → ev X d 334 (6, [some (.ref 115), some (.long l1), none, some (.int l3), some (.int l4)], [], D, E) (qR none D v)) (l1 : Int64) (l3 : Int32) (l4 : Int32) (E : mx_E) (v : mx_E) (h : b_Arrays_fill2_115_6 F k6 l1 l3 l4 E = some v) : ev X d 334 (6, [some (.ref 115), some (.long l1), none, some (.int l3), some (.int l4)], [], D, E) (qR none D v) := by
  have hq : kq_m 334 = some kq_q334 := rfl
  unfold b_Arrays_fill2_115_6 at h
  refine gv_n hq 2 (S' := (9, [some (.ref 115), some (.long l1), none, some (.int l3), some (.int l4)], [.int l4, .int l3], D, E)) rfl ?_
  refine gv_b hq rfl h 22 12 rfl rfl rfl (fun h => ?_) (fun h => ?_)
  · cases h
    exact ev_ret hq rfl rfl ⟨rfl, rfl, rfl⟩
  · refine gv_n hq 3 (S' := (15, [some (.ref 115), some (.long l1), none, some (.int l3), some (.int l4)], [.long l1, .int l3, .ref 115], D, E)) rfl ?_
    refine gv_ls hq rfl rfl h 16 rfl (fun h => ?_)
    refine gv_n hq 2 (S' := (6, [some (.ref 115), some (.long l1), none, some (.int (l3 + (nI 1))), some (.int l4)], [], D, (sE E 115 (l3).toNatClampNeg l1))) rfl ?_
    exact gv_w (K6 _ _ _ _ _ h) (And.intro rfl (And.intro rfl (And.intro rfl (And.intro rfl trivial))))
def g_Arrays_fill2_115_6 (F : Nat) : Nat → Int64 → Int32 → Int32 → mx_E → Option (mx_E) := it (fun k6 => b_Arrays_fill2_115_6 F k6) (fun _ _ _ _ => none)
theorem t_Arrays_fill2_115_6 (X : ev_X) (F : Nat) (d : Nat) (D : mx_D)  : ∀ (n : Nat) (l1 : Int64) (l3 : Int32) (l4 : Int32) (E : mx_E) (v : mx_E), g_Arrays_fill2_115_6 F n l1 l3 l4 E = some v → ev X d 334 (6, [some (.ref 115), some (.long l1), none, some (.int l3), some (.int l4)], [], D, E) (qR none D v) := by
  intro n
  induction n with
  | zero => intro l1 l3 l4 E v h; cases h
  | succ n ih => intro l1 l3 l4 E v h; exact tb_Arrays_fill2_115_6 X F d D (g_Arrays_fill2_115_6 F n) ih l1 l3 l4 E v h
def g_Arrays_fill2_115 (F : Nat) (a1 : Int64) (E : mx_E) : Option (mx_E) := (g_Arrays_fill2_115_6 F F a1 (nI 0) (nI 60) E)
theorem t_Arrays_fill2_115 (X : ev_X) (F : Nat) (d : Nat) (D : mx_D) (a1 : Int64) (E : mx_E) (v : mx_E) (h : g_Arrays_fill2_115 F a1 E = some v) : ev X d 334 (0, [some (.ref 115), some (.long a1), none, none, none], [], D, E) (qR none D v) := by
  have hq : kq_m 334 = some kq_q334 := rfl
  unfold g_Arrays_fill2_115 at h
  refine gv_n hq 5 (S' := (6, [some (.ref 115), some (.long a1), none, some (.int (nI 0)), some (.int (nI 60))], [], D, E)) rfl ?_
  exact gv_w (t_Arrays_fill2_115_6 X F d D F _ _ _ _ _ h) (And.intro rfl (And.intro rfl (And.intro rfl (And.intro rfl trivial))))
def g_Row_begin_114 (F : Nat) (a1 : Int32) (a2 : Int32) (D : mx_D) (E : mx_E) : Option (mx_D × mx_E) := (Option.bind (g_Arrays_fill2_115 F (lN 0) E) (fun r1 => (some ((sD (sD (sD D 114 1 (nI 1)) 114 2 a1) 114 3 a2), r1))))
theorem t_Row_begin_114 (X : ev_X) (F : Nat) (d : Nat) (hd : 1 ≤ d + 1) (a1 : Int32) (a2 : Int32) (D : mx_D) (E : mx_E) (v : mx_D × mx_E) (h : g_Row_begin_114 F a1 a2 D E = some v) : ev X (d + 1) 79 (0, [some (.ref 114), some (.int a1), some (.int a2)], [], D, E) (qR none v.1 v.2) := by
  have hq : kq_m 79 = some kq_q79 := rfl
  unfold g_Row_begin_114 at h
  refine gv_n hq 12 (S' := (20, [some (.ref 114), some (.int a1), some (.int a2)], [.long (lN 0), .ref 115], (sD (sD (sD D 114 1 (nI 1)) 114 2 a1) 114 3 a2), E)) rfl ?_
  obtain ⟨r1, h1, h⟩ := Option.bind_eq_some_iff.mp h
  refine gv_d hq rfl rfl rfl rfl rfl ((t_Arrays_fill2_115 X F d (sD (sD (sD D 114 1 (nI 1)) 114 2 a1) 114 3 a2) _ _ _ h1)) (S' := (23, [some (.ref 114), some (.int a1), some (.int a2)], [], (sD (sD (sD D 114 1 (nI 1)) 114 2 a1) 114 3 a2), r1)) rfl ?_
  cases h
  exact ev_ret hq rfl rfl ⟨rfl, rfl, rfl⟩
def g_X_row (F : Nat) (a1 : Int32) (a2 : Int32) (a3 : Int32) (D : mx_D) (E : mx_E) : Option (Int32 × mx_D × mx_E) := (if (g_X_isSlot a1) = 0 then (some ((-2 : Int32), D, E)) else (if a2 < 0 then (some ((-2 : Int32), D, E)) else (if (nI 4) ≤ a2 then (some ((-2 : Int32), D, E)) else (if a3 ≤ (nI 60) then (if 0 ≤ a3 then (if a1 = (nI 0) then (Option.bind (g_Row_begin_108 F a2 a3 D E) (fun r1 => (some ((nI 0), r1.1, r1.2)))) else (if a1 = (nI 1) then (Option.bind (g_Row_begin_110 F a2 a3 D E) (fun r2 => (some ((nI 0), r2.1, r2.2)))) else (if a1 = (nI 2) then (Option.bind (g_Row_begin_112 F a2 a3 D E) (fun r3 => (some ((nI 0), r3.1, r3.2)))) else (if a1 = (nI 3) then (Option.bind (g_Row_begin_114 F a2 a3 D E) (fun r4 => (some ((nI 0), r4.1, r4.2)))) else none)))) else (some ((-3 : Int32), D, E))) else (some ((-2 : Int32), D, E))))))
theorem t_X_row (X : ev_X) (F : Nat) (d : Nat) (hd : 2 ≤ d + 1) (a1 : Int32) (a2 : Int32) (a3 : Int32) (D : mx_D) (E : mx_E) (v : Int32 × mx_D × mx_E) (h : g_X_row F a1 a2 a3 D E = some v) : ev X (d + 1) 178 (0, [some (.ref 0), some (.int a1), some (.int a2), some (.int a3)], [], D, E) (qR (some (.int v.1)) v.2.1 v.2.2) := by
  have hq : kq_m 178 = some kq_q178 := rfl
  unfold g_X_row at h
  refine gv_n hq 1 (S' := (1, [some (.ref 0), some (.int a1), some (.int a2), some (.int a3)], [.int a1], D, E)) rfl ?_
  refine gv_d hq rfl rfl rfl rfl rfl ((t_X_isSlot X d D E _ _ rfl)) (S' := (4, [some (.ref 0), some (.int a1), some (.int a2), some (.int a3)], [.int (g_X_isSlot a1)], D, E)) rfl ?_
  refine gv_b hq rfl h 22 7 rfl rfl rfl (fun h => ?_) (fun h => ?_)
  · refine gv_n hq 1 (S' := (24, [some (.ref 0), some (.int a1), some (.int a2), some (.int a3)], [.int (-2 : Int32)], D, E)) rfl ?_
    cases h
    exact ev_ret hq rfl rfl ⟨rfl, rfl, rfl⟩
  · refine gv_n hq 1 (S' := (8, [some (.ref 0), some (.int a1), some (.int a2), some (.int a3)], [.int a2], D, E)) rfl ?_
    refine gv_b hq rfl h 22 11 rfl rfl rfl (fun h => ?_) (fun h => ?_)
    · refine gv_n hq 1 (S' := (24, [some (.ref 0), some (.int a1), some (.int a2), some (.int a3)], [.int (-2 : Int32)], D, E)) rfl ?_
      cases h
      exact ev_ret hq rfl rfl ⟨rfl, rfl, rfl⟩
    · refine gv_n hq 2 (S' := (13, [some (.ref 0), some (.int a1), some (.int a2), some (.int a3)], [.int (nI 4), .int a2], D, E)) rfl ?_
      refine gv_b hq rfl h 22 16 rfl rfl rfl (fun h => ?_) (fun h => ?_)
      · refine gv_n hq 1 (S' := (24, [some (.ref 0), some (.int a1), some (.int a2), some (.int a3)], [.int (-2 : Int32)], D, E)) rfl ?_
        cases h
        exact ev_ret hq rfl rfl ⟨rfl, rfl, rfl⟩
      · refine gv_n hq 2 (S' := (19, [some (.ref 0), some (.int a1), some (.int a2), some (.int a3)], [.int (nI 60), .int a3], D, E)) rfl ?_
        refine gv_b hq rfl h 25 22 rfl rfl rfl (fun h => ?_) (fun h => ?_)
        · refine gv_n hq 1 (S' := (26, [some (.ref 0), some (.int a1), some (.int a2), some (.int a3)], [.int a3], D, E)) rfl ?_
          refine gv_b hq rfl h 32 29 rfl rfl rfl (fun h => ?_) (fun h => ?_)
          · refine gv_n hq 3 (S' := (37, [some (.ref 0), some (.int a1), some (.int a2), some (.int a3)], [.int a1, .ref 62], D, E)) rfl ?_
            refine gv_if h (fun c0 h => ?_) (fun c0 h => ?_)
            · refine ev_ins hq rfl (S' := (38, [some (.ref 0), some (.int a1), some (.int a2), some (.int a3)], [.ref 108], D, E)) (gv_sw (fun z => ((37, [some (.ref 0), some (.int a1), some (.int a2), some (.int a3)], .int z :: [.ref 62], D, E) : mx_S)) c0 rfl) ?_
              refine gv_n hq 2 (S' := (40, [some (.ref 0), some (.int a1), some (.int a2), some (.int a3)], [.int a3, .int a2, .ref 108], D, E)) rfl ?_
              obtain ⟨r1, h1, h⟩ := Option.bind_eq_some_iff.mp h
              refine gv_d hq rfl rfl rfl rfl rfl (gv_dd (by omega) (t_Row_begin_108 X F (d - 1) (by omega) _ _ _ _ _ h1)) (S' := (43, [some (.ref 0), some (.int a1), some (.int a2), some (.int a3)], [], r1.1, r1.2)) rfl ?_
              refine gv_n hq 1 (S' := (44, [some (.ref 0), some (.int a1), some (.int a2), some (.int a3)], [.int (nI 0)], r1.1, r1.2)) rfl ?_
              cases h
              exact ev_ret hq rfl rfl ⟨rfl, rfl, rfl⟩
            · refine gv_if h (fun c1 h => ?_) (fun c1 h => ?_)
              · refine ev_ins hq rfl (S' := (38, [some (.ref 0), some (.int a1), some (.int a2), some (.int a3)], [.ref 110], D, E)) (gv_sw (fun z => ((37, [some (.ref 0), some (.int a1), some (.int a2), some (.int a3)], .int z :: [.ref 62], D, E) : mx_S)) c1 rfl) ?_
                refine gv_n hq 2 (S' := (40, [some (.ref 0), some (.int a1), some (.int a2), some (.int a3)], [.int a3, .int a2, .ref 110], D, E)) rfl ?_
                obtain ⟨r2, h1, h⟩ := Option.bind_eq_some_iff.mp h
                refine gv_d hq rfl rfl rfl rfl rfl (gv_dd (by omega) (t_Row_begin_110 X F (d - 1) (by omega) _ _ _ _ _ h1)) (S' := (43, [some (.ref 0), some (.int a1), some (.int a2), some (.int a3)], [], r2.1, r2.2)) rfl ?_
                refine gv_n hq 1 (S' := (44, [some (.ref 0), some (.int a1), some (.int a2), some (.int a3)], [.int (nI 0)], r2.1, r2.2)) rfl ?_
                cases h
                exact ev_ret hq rfl rfl ⟨rfl, rfl, rfl⟩
              · refine gv_if h (fun c2 h => ?_) (fun c2 h => ?_)
                · refine ev_ins hq rfl (S' := (38, [some (.ref 0), some (.int a1), some (.int a2), some (.int a3)], [.ref 112], D, E)) (gv_sw (fun z => ((37, [some (.ref 0), some (.int a1), some (.int a2), some (.int a3)], .int z :: [.ref 62], D, E) : mx_S)) c2 rfl) ?_
                  refine gv_n hq 2 (S' := (40, [some (.ref 0), some (.int a1), some (.int a2), some (.int a3)], [.int a3, .int a2, .ref 112], D, E)) rfl ?_
                  obtain ⟨r3, h1, h⟩ := Option.bind_eq_some_iff.mp h
                  refine gv_d hq rfl rfl rfl rfl rfl (gv_dd (by omega) (t_Row_begin_112 X F (d - 1) (by omega) _ _ _ _ _ h1)) (S' := (43, [some (.ref 0), some (.int a1), some (.int a2), some (.int a3)], [], r3.1, r3.2)) rfl ?_
                  refine gv_n hq 1 (S' := (44, [some (.ref 0), some (.int a1), some (.int a2), some (.int a3)], [.int (nI 0)], r3.1, r3.2)) rfl ?_
                  cases h
                  exact ev_ret hq rfl rfl ⟨rfl, rfl, rfl⟩
                · refine gv_if h (fun c3 h => ?_) (fun c3 h => ?_)
                  · refine ev_ins hq rfl (S' := (38, [some (.ref 0), some (.int a1), some (.int a2), some (.int a3)], [.ref 114], D, E)) (gv_sw (fun z => ((37, [some (.ref 0), some (.int a1), some (.int a2), some (.int a3)], .int z :: [.ref 62], D, E) : mx_S)) c3 rfl) ?_
                    refine gv_n hq 2 (S' := (40, [some (.ref 0), some (.int a1), some (.int a2), some (.int a3)], [.int a3, .int a2, .ref 114], D, E)) rfl ?_
                    obtain ⟨r4, h1, h⟩ := Option.bind_eq_some_iff.mp h
                    refine gv_d hq rfl rfl rfl rfl rfl (gv_dd (by omega) (t_Row_begin_114 X F (d - 1) (by omega) _ _ _ _ _ h1)) (S' := (43, [some (.ref 0), some (.int a1), some (.int a2), some (.int a3)], [], r4.1, r4.2)) rfl ?_
                    refine gv_n hq 1 (S' := (44, [some (.ref 0), some (.int a1), some (.int a2), some (.int a3)], [.int (nI 0)], r4.1, r4.2)) rfl ?_
                    cases h
                    exact ev_ret hq rfl rfl ⟨rfl, rfl, rfl⟩
                  · cases h
          · refine gv_n hq 1 (S' := (31, [some (.ref 0), some (.int a1), some (.int a2), some (.int a3)], [.int (-3 : Int32)], D, E)) rfl ?_
            cases h
            exact ev_ret hq rfl rfl ⟨rfl, rfl, rfl⟩
        · refine gv_n hq 1 (S' := (24, [some (.ref 0), some (.int a1), some (.int a2), some (.int a3)], [.int (-2 : Int32)], D, E)) rfl ?_
          cases h
          exact ev_ret hq rfl rfl ⟨rfl, rfl, rfl⟩
def b_M_row_52 (F : Nat) (k52 : Int32 → Int32 → mx_D → mx_E → Option (Int32 × mx_D × mx_E)) (l1 : Int32) (l4 : Int32) (D : mx_D) (E : mx_E) : Option (Int32 × mx_D × mx_E) := (if (nI 60) ≤ l4 then (some ((nI 0), D, E)) else (rk 240 (((nI 60) * l1) + l4) (k52 l1 (l4 + (nI 1)) D (sE E 139 ((((nI 60) * l1) + l4)).toNatClampNeg (lN 0)))))
theorem tb_M_row_52 (X : ev_X) (F : Nat) (d : Nat) (hd : 2 ≤ d + 1) (k52 : Int32 → Int32 → mx_D → mx_E → Option (Int32 × mx_D × mx_E)) (K52 : ∀ (l1 : Int32) (l4 : Int32) (D : mx_D) (E : mx_E) (v : Int32 × mx_D × mx_E), k52 l1 l4 D E = some v → ev X (d + 1) 328 (52, [some (.ref 116), some (.int l1), none, none, some (.int l4)], [], D, E) (qR (some (.int v.1)) v.2.1 v.2.2)) (l1 : Int32) (l4 : Int32) (D : mx_D) (E : mx_E) (v : Int32 × mx_D × mx_E) (h : b_M_row_52 F k52 l1 l4 D E = some v) : ev X (d + 1) 328 (52, [some (.ref 116), some (.int l1), none, none, some (.int l4)], [], D, E) (qR (some (.int v.1)) v.2.1 v.2.2) := by
  have hq : kq_m 328 = some kq_q328 := rfl
  unfold b_M_row_52 at h
  refine gv_n hq 2 (S' := (56, [some (.ref 116), some (.int l1), none, none, some (.int l4)], [.int (nI 60), .int l4], D, E)) rfl ?_
  refine gv_b hq rfl h 78 59 rfl rfl rfl (fun h => ?_) (fun h => ?_)
  · refine gv_n hq 1 (S' := (79, [some (.ref 116), some (.int l1), none, none, some (.int l4)], [.int (nI 0)], D, E)) rfl ?_
    cases h
    exact ev_ret hq rfl rfl ⟨rfl, rfl, rfl⟩
  · refine gv_n hq 8 (S' := (71, [some (.ref 116), some (.int l1), none, none, some (.int l4)], [.long (lN 0), .int (((nI 60) * l1) + l4), .ref 139], D, E)) rfl ?_
    refine gv_ls hq rfl rfl h 72 rfl (fun h => ?_)
    refine gv_n hq 2 (S' := (52, [some (.ref 116), some (.int l1), none, none, some (.int (l4 + (nI 1)))], [], D, (sE E 139 ((((nI 60) * l1) + l4)).toNatClampNeg (lN 0)))) rfl ?_
    exact gv_w (K52 _ _ _ _ _ h) (And.intro rfl (And.intro rfl (And.intro rfl trivial)))
def g_M_row_52 (F : Nat) : Nat → Int32 → Int32 → mx_D → mx_E → Option (Int32 × mx_D × mx_E) := it (fun k52 => b_M_row_52 F k52) (fun _ _ _ _ => none)
theorem t_M_row_52 (X : ev_X) (F : Nat) (d : Nat) (hd : 2 ≤ d + 1)  : ∀ (n : Nat) (l1 : Int32) (l4 : Int32) (D : mx_D) (E : mx_E) (v : Int32 × mx_D × mx_E), g_M_row_52 F n l1 l4 D E = some v → ev X (d + 1) 328 (52, [some (.ref 116), some (.int l1), none, none, some (.int l4)], [], D, E) (qR (some (.int v.1)) v.2.1 v.2.2) := by
  intro n
  induction n with
  | zero => intro l1 l4 D E v h; cases h
  | succ n ih => intro l1 l4 D E v h; exact tb_M_row_52 X F d hd (g_M_row_52 F n) ih l1 l4 D E v h
def g_M_row (F : Nat) (a1 : Int32) (a2 : Int32) (a3 : Int32) (D : mx_D) (E : mx_E) : Option (Int32 × mx_D × mx_E) := (if (g_M_isSlot a1) = 0 then (some ((-2 : Int32), D, E)) else (if (g_M_in ((a2).toInt64) (lN 0) (3 : Int64)) = 0 then (some ((-2 : Int32), D, E)) else (if a3 ≤ (nI 60) then (if 0 ≤ a3 then (rk 4 a1 (rk 4 a1 (g_M_row_52 F F a1 (nI 0) (sD (sD D 137 (a1).toNatClampNeg a3) 138 (a1).toNatClampNeg a2) E))) else (some ((-3 : Int32), D, E))) else (some ((-2 : Int32), D, E)))))
theorem t_M_row (X : ev_X) (F : Nat) (d : Nat) (hd : 2 ≤ d + 1) (a1 : Int32) (a2 : Int32) (a3 : Int32) (D : mx_D) (E : mx_E) (v : Int32 × mx_D × mx_E) (h : g_M_row F a1 a2 a3 D E = some v) : ev X (d + 1) 328 (0, [some (.ref 116), some (.int a1), some (.int a2), some (.int a3), none], [], D, E) (qR (some (.int v.1)) v.2.1 v.2.2) := by
  have hq : kq_m 328 = some kq_q328 := rfl
  unfold g_M_row at h
  refine gv_n hq 1 (S' := (1, [some (.ref 116), some (.int a1), some (.int a2), some (.int a3), none], [.int a1], D, E)) rfl ?_
  refine gv_d hq rfl rfl rfl rfl rfl (gv_dd (by omega) (t_M_isSlot X (d - 1) (by omega) D E _ _ rfl)) (S' := (4, [some (.ref 116), some (.int a1), some (.int a2), some (.int a3), none], [.int (g_M_isSlot a1)], D, E)) rfl ?_
  refine gv_b hq rfl h 25 7 rfl rfl rfl (fun h => ?_) (fun h => ?_)
  · refine gv_n hq 1 (S' := (27, [some (.ref 116), some (.int a1), some (.int a2), some (.int a3), none], [.int (-2 : Int32)], D, E)) rfl ?_
    cases h
    exact ev_ret hq rfl rfl ⟨rfl, rfl, rfl⟩
  · refine gv_n hq 4 (S' := (13, [some (.ref 116), some (.int a1), some (.int a2), some (.int a3), none], [.long (3 : Int64), .long (lN 0), .long ((a2).toInt64)], D, E)) rfl ?_
    refine gv_d hq rfl rfl rfl rfl rfl ((t_M_in X d D E _ _ _ _ rfl)) (S' := (16, [some (.ref 116), some (.int a1), some (.int a2), some (.int a3), none], [.int (g_M_in ((a2).toInt64) (lN 0) (3 : Int64))], D, E)) rfl ?_
    refine gv_b hq rfl h 25 19 rfl rfl rfl (fun h => ?_) (fun h => ?_)
    · refine gv_n hq 1 (S' := (27, [some (.ref 116), some (.int a1), some (.int a2), some (.int a3), none], [.int (-2 : Int32)], D, E)) rfl ?_
      cases h
      exact ev_ret hq rfl rfl ⟨rfl, rfl, rfl⟩
    · refine gv_n hq 2 (S' := (22, [some (.ref 116), some (.int a1), some (.int a2), some (.int a3), none], [.int (nI 60), .int a3], D, E)) rfl ?_
      refine gv_b hq rfl h 28 25 rfl rfl rfl (fun h => ?_) (fun h => ?_)
      · refine gv_n hq 1 (S' := (29, [some (.ref 116), some (.int a1), some (.int a2), some (.int a3), none], [.int a3], D, E)) rfl ?_
        refine gv_b hq rfl h 35 32 rfl rfl rfl (fun h => ?_) (fun h => ?_)
        · refine gv_n hq 4 (S' := (41, [some (.ref 116), some (.int a1), some (.int a2), some (.int a3), none], [.int a3, .int a1, .ref 137], D, E)) rfl ?_
          refine gv_is hq rfl rfl h 42 rfl (fun h => ?_)
          refine gv_n hq 4 (S' := (48, [some (.ref 116), some (.int a1), some (.int a2), some (.int a3), none], [.int a2, .int a1, .ref 138], (sD D 137 (a1).toNatClampNeg a3), E)) rfl ?_
          refine gv_is hq rfl rfl h 49 rfl (fun h => ?_)
          refine gv_n hq 2 (S' := (52, [some (.ref 116), some (.int a1), some (.int a2), some (.int a3), some (.int (nI 0))], [], (sD (sD D 137 (a1).toNatClampNeg a3) 138 (a1).toNatClampNeg a2), E)) rfl ?_
          exact gv_w (t_M_row_52 X F d hd F _ _ _ _ _ h) (And.intro rfl (And.intro rfl (And.intro rfl trivial)))
        · refine gv_n hq 1 (S' := (34, [some (.ref 116), some (.int a1), some (.int a2), some (.int a3), none], [.int (-3 : Int32)], D, E)) rfl ?_
          cases h
          exact ev_ret hq rfl rfl ⟨rfl, rfl, rfl⟩
      · refine gv_n hq 1 (S' := (27, [some (.ref 116), some (.int a1), some (.int a2), some (.int a3), none], [.int (-2 : Int32)], D, E)) rfl ?_
        cases h
        exact ev_ret hq rfl rfl ⟨rfl, rfl, rfl⟩
def g_Row_cutToWidth_108 (D : mx_D) (a1 : Int64) : Int64 := (if (D 108 2) = (nI 0) then ((((((a1).toInt32)).toInt8.toInt32)).toInt64) else (if (D 108 2) = (nI 1) then ((((((a1).toInt32)).toInt16.toInt32)).toInt64) else (if (D 108 2) = (nI 2) then ((((a1).toInt32)).toInt64) else a1)))
theorem t_Row_cutToWidth_108 (X : ev_X) (d : Nat) (D : mx_D) (E : mx_E) (a1 : Int64) (v : Int64) (h : g_Row_cutToWidth_108 D a1 = v) : ev X d 80 (0, [some (.ref 108), some (.long a1), none], [], D, E) (qR (some (.long v)) D E) := by
  have hq : kq_m 80 = some kq_q80 := rfl
  unfold g_Row_cutToWidth_108 at h
  refine gv_n hq 2 (S' := (4, [some (.ref 108), some (.long a1), none], [.int (D 108 2)], D, E)) rfl ?_
  refine gv_if h (fun c0 h => ?_) (fun c0 h => ?_)
  · refine ev_ins hq rfl (S' := (32, [some (.ref 108), some (.long a1), none], [], D, E)) (gv_sw (fun z => ((4, [some (.ref 108), some (.long a1), none], .int z :: [], D, E) : mx_S)) c0 rfl) ?_
    refine gv_n hq 4 (S' := (36, [some (.ref 108), some (.long a1), none], [.long ((((((a1).toInt32)).toInt8.toInt32)).toInt64)], D, E)) rfl ?_
    subst h
    exact ev_ret hq rfl rfl ⟨rfl, rfl, rfl⟩
  refine gv_if h (fun c1 h => ?_) (fun c1 h => ?_)
  · refine ev_ins hq rfl (S' := (37, [some (.ref 108), some (.long a1), none], [], D, E)) (gv_sw (fun z => ((4, [some (.ref 108), some (.long a1), none], .int z :: [], D, E) : mx_S)) c1 rfl) ?_
    refine gv_n hq 4 (S' := (41, [some (.ref 108), some (.long a1), none], [.long ((((((a1).toInt32)).toInt16.toInt32)).toInt64)], D, E)) rfl ?_
    subst h
    exact ev_ret hq rfl rfl ⟨rfl, rfl, rfl⟩
  refine gv_if h (fun c2 h => ?_) (fun c2 h => ?_)
  · refine ev_ins hq rfl (S' := (42, [some (.ref 108), some (.long a1), none], [], D, E)) (gv_sw (fun z => ((4, [some (.ref 108), some (.long a1), none], .int z :: [], D, E) : mx_S)) c2 rfl) ?_
    refine gv_n hq 3 (S' := (45, [some (.ref 108), some (.long a1), none], [.long ((((a1).toInt32)).toInt64)], D, E)) rfl ?_
    subst h
    exact ev_ret hq rfl rfl ⟨rfl, rfl, rfl⟩
  refine ev_ins hq rfl (S' := (46, [some (.ref 108), some (.long a1), none], [], D, E)) (gv_swd (fun z => ((4, [some (.ref 108), some (.long a1), none], .int z :: [], D, E) : mx_S)) (⟨⟨⟨trivial, c0⟩, c1⟩, c2⟩ : sw_no (D 108 2) 3) (m := 2) rfl rfl rfl) ?_
  refine gv_n hq 1 (S' := (47, [some (.ref 108), some (.long a1), none], [.long a1], D, E)) rfl ?_
  subst h
  exact ev_ret hq rfl rfl ⟨rfl, rfl, rfl⟩
def g_Row_cutToWidth_110 (D : mx_D) (a1 : Int64) : Int64 := (if (D 110 2) = (nI 0) then ((((((a1).toInt32)).toInt8.toInt32)).toInt64) else (if (D 110 2) = (nI 1) then ((((((a1).toInt32)).toInt16.toInt32)).toInt64) else (if (D 110 2) = (nI 2) then ((((a1).toInt32)).toInt64) else a1)))
theorem t_Row_cutToWidth_110 (X : ev_X) (d : Nat) (D : mx_D) (E : mx_E) (a1 : Int64) (v : Int64) (h : g_Row_cutToWidth_110 D a1 = v) : ev X d 80 (0, [some (.ref 110), some (.long a1), none], [], D, E) (qR (some (.long v)) D E) := by
  have hq : kq_m 80 = some kq_q80 := rfl
  unfold g_Row_cutToWidth_110 at h
  refine gv_n hq 2 (S' := (4, [some (.ref 110), some (.long a1), none], [.int (D 110 2)], D, E)) rfl ?_
  refine gv_if h (fun c0 h => ?_) (fun c0 h => ?_)
  · refine ev_ins hq rfl (S' := (32, [some (.ref 110), some (.long a1), none], [], D, E)) (gv_sw (fun z => ((4, [some (.ref 110), some (.long a1), none], .int z :: [], D, E) : mx_S)) c0 rfl) ?_
    refine gv_n hq 4 (S' := (36, [some (.ref 110), some (.long a1), none], [.long ((((((a1).toInt32)).toInt8.toInt32)).toInt64)], D, E)) rfl ?_
    subst h
    exact ev_ret hq rfl rfl ⟨rfl, rfl, rfl⟩
  refine gv_if h (fun c1 h => ?_) (fun c1 h => ?_)
  · refine ev_ins hq rfl (S' := (37, [some (.ref 110), some (.long a1), none], [], D, E)) (gv_sw (fun z => ((4, [some (.ref 110), some (.long a1), none], .int z :: [], D, E) : mx_S)) c1 rfl) ?_
    refine gv_n hq 4 (S' := (41, [some (.ref 110), some (.long a1), none], [.long ((((((a1).toInt32)).toInt16.toInt32)).toInt64)], D, E)) rfl ?_
    subst h
    exact ev_ret hq rfl rfl ⟨rfl, rfl, rfl⟩
  refine gv_if h (fun c2 h => ?_) (fun c2 h => ?_)
  · refine ev_ins hq rfl (S' := (42, [some (.ref 110), some (.long a1), none], [], D, E)) (gv_sw (fun z => ((4, [some (.ref 110), some (.long a1), none], .int z :: [], D, E) : mx_S)) c2 rfl) ?_
    refine gv_n hq 3 (S' := (45, [some (.ref 110), some (.long a1), none], [.long ((((a1).toInt32)).toInt64)], D, E)) rfl ?_
    subst h
    exact ev_ret hq rfl rfl ⟨rfl, rfl, rfl⟩
  refine ev_ins hq rfl (S' := (46, [some (.ref 110), some (.long a1), none], [], D, E)) (gv_swd (fun z => ((4, [some (.ref 110), some (.long a1), none], .int z :: [], D, E) : mx_S)) (⟨⟨⟨trivial, c0⟩, c1⟩, c2⟩ : sw_no (D 110 2) 3) (m := 2) rfl rfl rfl) ?_
  refine gv_n hq 1 (S' := (47, [some (.ref 110), some (.long a1), none], [.long a1], D, E)) rfl ?_
  subst h
  exact ev_ret hq rfl rfl ⟨rfl, rfl, rfl⟩
def g_Row_cutToWidth_112 (D : mx_D) (a1 : Int64) : Int64 := (if (D 112 2) = (nI 0) then ((((((a1).toInt32)).toInt8.toInt32)).toInt64) else (if (D 112 2) = (nI 1) then ((((((a1).toInt32)).toInt16.toInt32)).toInt64) else (if (D 112 2) = (nI 2) then ((((a1).toInt32)).toInt64) else a1)))
theorem t_Row_cutToWidth_112 (X : ev_X) (d : Nat) (D : mx_D) (E : mx_E) (a1 : Int64) (v : Int64) (h : g_Row_cutToWidth_112 D a1 = v) : ev X d 80 (0, [some (.ref 112), some (.long a1), none], [], D, E) (qR (some (.long v)) D E) := by
  have hq : kq_m 80 = some kq_q80 := rfl
  unfold g_Row_cutToWidth_112 at h
  refine gv_n hq 2 (S' := (4, [some (.ref 112), some (.long a1), none], [.int (D 112 2)], D, E)) rfl ?_
  refine gv_if h (fun c0 h => ?_) (fun c0 h => ?_)
  · refine ev_ins hq rfl (S' := (32, [some (.ref 112), some (.long a1), none], [], D, E)) (gv_sw (fun z => ((4, [some (.ref 112), some (.long a1), none], .int z :: [], D, E) : mx_S)) c0 rfl) ?_
    refine gv_n hq 4 (S' := (36, [some (.ref 112), some (.long a1), none], [.long ((((((a1).toInt32)).toInt8.toInt32)).toInt64)], D, E)) rfl ?_
    subst h
    exact ev_ret hq rfl rfl ⟨rfl, rfl, rfl⟩
  refine gv_if h (fun c1 h => ?_) (fun c1 h => ?_)
  · refine ev_ins hq rfl (S' := (37, [some (.ref 112), some (.long a1), none], [], D, E)) (gv_sw (fun z => ((4, [some (.ref 112), some (.long a1), none], .int z :: [], D, E) : mx_S)) c1 rfl) ?_
    refine gv_n hq 4 (S' := (41, [some (.ref 112), some (.long a1), none], [.long ((((((a1).toInt32)).toInt16.toInt32)).toInt64)], D, E)) rfl ?_
    subst h
    exact ev_ret hq rfl rfl ⟨rfl, rfl, rfl⟩
  refine gv_if h (fun c2 h => ?_) (fun c2 h => ?_)
  · refine ev_ins hq rfl (S' := (42, [some (.ref 112), some (.long a1), none], [], D, E)) (gv_sw (fun z => ((4, [some (.ref 112), some (.long a1), none], .int z :: [], D, E) : mx_S)) c2 rfl) ?_
    refine gv_n hq 3 (S' := (45, [some (.ref 112), some (.long a1), none], [.long ((((a1).toInt32)).toInt64)], D, E)) rfl ?_
    subst h
    exact ev_ret hq rfl rfl ⟨rfl, rfl, rfl⟩
  refine ev_ins hq rfl (S' := (46, [some (.ref 112), some (.long a1), none], [], D, E)) (gv_swd (fun z => ((4, [some (.ref 112), some (.long a1), none], .int z :: [], D, E) : mx_S)) (⟨⟨⟨trivial, c0⟩, c1⟩, c2⟩ : sw_no (D 112 2) 3) (m := 2) rfl rfl rfl) ?_
  refine gv_n hq 1 (S' := (47, [some (.ref 112), some (.long a1), none], [.long a1], D, E)) rfl ?_
  subst h
  exact ev_ret hq rfl rfl ⟨rfl, rfl, rfl⟩
def g_Row_cutToWidth_114 (D : mx_D) (a1 : Int64) : Int64 := (if (D 114 2) = (nI 0) then ((((((a1).toInt32)).toInt8.toInt32)).toInt64) else (if (D 114 2) = (nI 1) then ((((((a1).toInt32)).toInt16.toInt32)).toInt64) else (if (D 114 2) = (nI 2) then ((((a1).toInt32)).toInt64) else a1)))
theorem t_Row_cutToWidth_114 (X : ev_X) (d : Nat) (D : mx_D) (E : mx_E) (a1 : Int64) (v : Int64) (h : g_Row_cutToWidth_114 D a1 = v) : ev X d 80 (0, [some (.ref 114), some (.long a1), none], [], D, E) (qR (some (.long v)) D E) := by
  have hq : kq_m 80 = some kq_q80 := rfl
  unfold g_Row_cutToWidth_114 at h
  refine gv_n hq 2 (S' := (4, [some (.ref 114), some (.long a1), none], [.int (D 114 2)], D, E)) rfl ?_
  refine gv_if h (fun c0 h => ?_) (fun c0 h => ?_)
  · refine ev_ins hq rfl (S' := (32, [some (.ref 114), some (.long a1), none], [], D, E)) (gv_sw (fun z => ((4, [some (.ref 114), some (.long a1), none], .int z :: [], D, E) : mx_S)) c0 rfl) ?_
    refine gv_n hq 4 (S' := (36, [some (.ref 114), some (.long a1), none], [.long ((((((a1).toInt32)).toInt8.toInt32)).toInt64)], D, E)) rfl ?_
    subst h
    exact ev_ret hq rfl rfl ⟨rfl, rfl, rfl⟩
  refine gv_if h (fun c1 h => ?_) (fun c1 h => ?_)
  · refine ev_ins hq rfl (S' := (37, [some (.ref 114), some (.long a1), none], [], D, E)) (gv_sw (fun z => ((4, [some (.ref 114), some (.long a1), none], .int z :: [], D, E) : mx_S)) c1 rfl) ?_
    refine gv_n hq 4 (S' := (41, [some (.ref 114), some (.long a1), none], [.long ((((((a1).toInt32)).toInt16.toInt32)).toInt64)], D, E)) rfl ?_
    subst h
    exact ev_ret hq rfl rfl ⟨rfl, rfl, rfl⟩
  refine gv_if h (fun c2 h => ?_) (fun c2 h => ?_)
  · refine ev_ins hq rfl (S' := (42, [some (.ref 114), some (.long a1), none], [], D, E)) (gv_sw (fun z => ((4, [some (.ref 114), some (.long a1), none], .int z :: [], D, E) : mx_S)) c2 rfl) ?_
    refine gv_n hq 3 (S' := (45, [some (.ref 114), some (.long a1), none], [.long ((((a1).toInt32)).toInt64)], D, E)) rfl ?_
    subst h
    exact ev_ret hq rfl rfl ⟨rfl, rfl, rfl⟩
  refine ev_ins hq rfl (S' := (46, [some (.ref 114), some (.long a1), none], [], D, E)) (gv_swd (fun z => ((4, [some (.ref 114), some (.long a1), none], .int z :: [], D, E) : mx_S)) (⟨⟨⟨trivial, c0⟩, c1⟩, c2⟩ : sw_no (D 114 2) 3) (m := 2) rfl rfl rfl) ?_
  refine gv_n hq 1 (S' := (47, [some (.ref 114), some (.long a1), none], [.long a1], D, E)) rfl ?_
  subst h
  exact ev_ret hq rfl rfl ⟨rfl, rfl, rfl⟩
def g_X_write (D : mx_D) (a1 : Int32) (a2 : Int32) (a3 : Int64) (E : mx_E) : Option (Int32 × mx_E) := (if (g_X_isSlot a1) = 0 then (some ((-2 : Int32), E)) else (if a1 = (nI 0) then (if (D 108 1) = 0 then (some ((-6 : Int32), E)) else (if a2 < 0 then (some ((-7 : Int32), E)) else (if a2 < (D 108 3) then (rk 60 a2 (some ((nI 0), (sE E 109 (a2).toNatClampNeg (g_Row_cutToWidth_108 D a3))))) else (some ((-7 : Int32), E))))) else (if a1 = (nI 1) then (if (D 110 1) = 0 then (some ((-6 : Int32), E)) else (if a2 < 0 then (some ((-7 : Int32), E)) else (if a2 < (D 110 3) then (rk 60 a2 (some ((nI 0), (sE E 111 (a2).toNatClampNeg (g_Row_cutToWidth_110 D a3))))) else (some ((-7 : Int32), E))))) else (if a1 = (nI 2) then (if (D 112 1) = 0 then (some ((-6 : Int32), E)) else (if a2 < 0 then (some ((-7 : Int32), E)) else (if a2 < (D 112 3) then (rk 60 a2 (some ((nI 0), (sE E 113 (a2).toNatClampNeg (g_Row_cutToWidth_112 D a3))))) else (some ((-7 : Int32), E))))) else (if a1 = (nI 3) then (if (D 114 1) = 0 then (some ((-6 : Int32), E)) else (if a2 < 0 then (some ((-7 : Int32), E)) else (if a2 < (D 114 3) then (rk 60 a2 (some ((nI 0), (sE E 115 (a2).toNatClampNeg (g_Row_cutToWidth_114 D a3))))) else (some ((-7 : Int32), E))))) else none)))))
theorem t_X_write (X : ev_X) (d : Nat) (hd : 1 ≤ d + 1) (D : mx_D) (a1 : Int32) (a2 : Int32) (a3 : Int64) (E : mx_E) (v : Int32 × mx_E) (h : g_X_write D a1 a2 a3 E = some v) : ev X (d + 1) 179 (0, [some (.ref 0), some (.int a1), some (.int a2), some (.long a3), none, none], [], D, E) (qR (some (.int v.1)) D v.2) := by
  have hq : kq_m 179 = some kq_q179 := rfl
  unfold g_X_write at h
  refine gv_n hq 1 (S' := (1, [some (.ref 0), some (.int a1), some (.int a2), some (.long a3), none, none], [.int a1], D, E)) rfl ?_
  refine gv_d hq rfl rfl rfl rfl rfl ((t_X_isSlot X d D E _ _ rfl)) (S' := (4, [some (.ref 0), some (.int a1), some (.int a2), some (.long a3), none, none], [.int (g_X_isSlot a1)], D, E)) rfl ?_
  refine gv_b hq rfl h 7 10 rfl rfl rfl (fun h => ?_) (fun h => ?_)
  · refine gv_n hq 1 (S' := (9, [some (.ref 0), some (.int a1), some (.int a2), some (.long a3), none, none], [.int (-2 : Int32)], D, E)) rfl ?_
    cases h
    exact ev_ret hq rfl rfl ⟨rfl, rfl, rfl⟩
  · refine gv_n hq 3 (S' := (15, [some (.ref 0), some (.int a1), some (.int a2), some (.long a3), none, none], [.int a1, .ref 62], D, E)) rfl ?_
    refine gv_if h (fun c0 h => ?_) (fun c0 h => ?_)
    · refine ev_ins hq rfl (S' := (16, [some (.ref 0), some (.int a1), some (.int a2), some (.long a3), none, none], [.ref 108], D, E)) (gv_sw (fun z => ((15, [some (.ref 0), some (.int a1), some (.int a2), some (.long a3), none, none], .int z :: [.ref 62], D, E) : mx_S)) c0 rfl) ?_
      refine gv_n hq 3 (S' := (23, [some (.ref 0), some (.int a1), some (.int a2), some (.long a3), none, some (.ref 108)], [.int (D 108 1)], D, E)) rfl ?_
      refine gv_b hq rfl h 26 29 rfl rfl rfl (fun h => ?_) (fun h => ?_)
      · refine gv_n hq 1 (S' := (28, [some (.ref 0), some (.int a1), some (.int a2), some (.long a3), none, some (.ref 108)], [.int (-6 : Int32)], D, E)) rfl ?_
        cases h
        exact ev_ret hq rfl rfl ⟨rfl, rfl, rfl⟩
      · refine gv_n hq 1 (S' := (30, [some (.ref 0), some (.int a1), some (.int a2), some (.long a3), none, some (.ref 108)], [.int a2], D, E)) rfl ?_
        refine gv_b hq rfl h 42 33 rfl rfl rfl (fun h => ?_) (fun h => ?_)
        · refine gv_n hq 1 (S' := (44, [some (.ref 0), some (.int a1), some (.int a2), some (.long a3), none, some (.ref 108)], [.int (-7 : Int32)], D, E)) rfl ?_
          cases h
          exact ev_ret hq rfl rfl ⟨rfl, rfl, rfl⟩
        · refine gv_n hq 3 (S' := (39, [some (.ref 0), some (.int a1), some (.int a2), some (.long a3), none, some (.ref 108)], [.int (D 108 3), .int a2], D, E)) rfl ?_
          refine gv_b hq rfl h 45 42 rfl rfl rfl (fun h => ?_) (fun h => ?_)
          · refine gv_n hq 5 (S' := (54, [some (.ref 0), some (.int a1), some (.int a2), some (.long a3), none, some (.ref 108)], [.long a3, .ref 108, .int a2, .ref 109], D, E)) rfl ?_
            refine gv_d hq rfl rfl rfl rfl rfl ((t_Row_cutToWidth_108 X d D E _ _ rfl)) (S' := (57, [some (.ref 0), some (.int a1), some (.int a2), some (.long a3), none, some (.ref 108)], [.long (g_Row_cutToWidth_108 D a3), .int a2, .ref 109], D, E)) rfl ?_
            refine gv_ls hq rfl rfl h 58 rfl (fun h => ?_)
            refine gv_n hq 1 (S' := (59, [some (.ref 0), some (.int a1), some (.int a2), some (.long a3), none, some (.ref 108)], [.int (nI 0)], D, (sE E 109 (a2).toNatClampNeg (g_Row_cutToWidth_108 D a3)))) rfl ?_
            cases h
            exact ev_ret hq rfl rfl ⟨rfl, rfl, rfl⟩
          · refine gv_n hq 1 (S' := (44, [some (.ref 0), some (.int a1), some (.int a2), some (.long a3), none, some (.ref 108)], [.int (-7 : Int32)], D, E)) rfl ?_
            cases h
            exact ev_ret hq rfl rfl ⟨rfl, rfl, rfl⟩
    · refine gv_if h (fun c1 h => ?_) (fun c1 h => ?_)
      · refine ev_ins hq rfl (S' := (16, [some (.ref 0), some (.int a1), some (.int a2), some (.long a3), none, none], [.ref 110], D, E)) (gv_sw (fun z => ((15, [some (.ref 0), some (.int a1), some (.int a2), some (.long a3), none, none], .int z :: [.ref 62], D, E) : mx_S)) c1 rfl) ?_
        refine gv_n hq 3 (S' := (23, [some (.ref 0), some (.int a1), some (.int a2), some (.long a3), none, some (.ref 110)], [.int (D 110 1)], D, E)) rfl ?_
        refine gv_b hq rfl h 26 29 rfl rfl rfl (fun h => ?_) (fun h => ?_)
        · refine gv_n hq 1 (S' := (28, [some (.ref 0), some (.int a1), some (.int a2), some (.long a3), none, some (.ref 110)], [.int (-6 : Int32)], D, E)) rfl ?_
          cases h
          exact ev_ret hq rfl rfl ⟨rfl, rfl, rfl⟩
        · refine gv_n hq 1 (S' := (30, [some (.ref 0), some (.int a1), some (.int a2), some (.long a3), none, some (.ref 110)], [.int a2], D, E)) rfl ?_
          refine gv_b hq rfl h 42 33 rfl rfl rfl (fun h => ?_) (fun h => ?_)
          · refine gv_n hq 1 (S' := (44, [some (.ref 0), some (.int a1), some (.int a2), some (.long a3), none, some (.ref 110)], [.int (-7 : Int32)], D, E)) rfl ?_
            cases h
            exact ev_ret hq rfl rfl ⟨rfl, rfl, rfl⟩
          · refine gv_n hq 3 (S' := (39, [some (.ref 0), some (.int a1), some (.int a2), some (.long a3), none, some (.ref 110)], [.int (D 110 3), .int a2], D, E)) rfl ?_
            refine gv_b hq rfl h 45 42 rfl rfl rfl (fun h => ?_) (fun h => ?_)
            · refine gv_n hq 5 (S' := (54, [some (.ref 0), some (.int a1), some (.int a2), some (.long a3), none, some (.ref 110)], [.long a3, .ref 110, .int a2, .ref 111], D, E)) rfl ?_
              refine gv_d hq rfl rfl rfl rfl rfl ((t_Row_cutToWidth_110 X d D E _ _ rfl)) (S' := (57, [some (.ref 0), some (.int a1), some (.int a2), some (.long a3), none, some (.ref 110)], [.long (g_Row_cutToWidth_110 D a3), .int a2, .ref 111], D, E)) rfl ?_
              refine gv_ls hq rfl rfl h 58 rfl (fun h => ?_)
              refine gv_n hq 1 (S' := (59, [some (.ref 0), some (.int a1), some (.int a2), some (.long a3), none, some (.ref 110)], [.int (nI 0)], D, (sE E 111 (a2).toNatClampNeg (g_Row_cutToWidth_110 D a3)))) rfl ?_
              cases h
              exact ev_ret hq rfl rfl ⟨rfl, rfl, rfl⟩
            · refine gv_n hq 1 (S' := (44, [some (.ref 0), some (.int a1), some (.int a2), some (.long a3), none, some (.ref 110)], [.int (-7 : Int32)], D, E)) rfl ?_
              cases h
              exact ev_ret hq rfl rfl ⟨rfl, rfl, rfl⟩
      · refine gv_if h (fun c2 h => ?_) (fun c2 h => ?_)
        · refine ev_ins hq rfl (S' := (16, [some (.ref 0), some (.int a1), some (.int a2), some (.long a3), none, none], [.ref 112], D, E)) (gv_sw (fun z => ((15, [some (.ref 0), some (.int a1), some (.int a2), some (.long a3), none, none], .int z :: [.ref 62], D, E) : mx_S)) c2 rfl) ?_
          refine gv_n hq 3 (S' := (23, [some (.ref 0), some (.int a1), some (.int a2), some (.long a3), none, some (.ref 112)], [.int (D 112 1)], D, E)) rfl ?_
          refine gv_b hq rfl h 26 29 rfl rfl rfl (fun h => ?_) (fun h => ?_)
          · refine gv_n hq 1 (S' := (28, [some (.ref 0), some (.int a1), some (.int a2), some (.long a3), none, some (.ref 112)], [.int (-6 : Int32)], D, E)) rfl ?_
            cases h
            exact ev_ret hq rfl rfl ⟨rfl, rfl, rfl⟩
          · refine gv_n hq 1 (S' := (30, [some (.ref 0), some (.int a1), some (.int a2), some (.long a3), none, some (.ref 112)], [.int a2], D, E)) rfl ?_
            refine gv_b hq rfl h 42 33 rfl rfl rfl (fun h => ?_) (fun h => ?_)
            · refine gv_n hq 1 (S' := (44, [some (.ref 0), some (.int a1), some (.int a2), some (.long a3), none, some (.ref 112)], [.int (-7 : Int32)], D, E)) rfl ?_
              cases h
              exact ev_ret hq rfl rfl ⟨rfl, rfl, rfl⟩
            · refine gv_n hq 3 (S' := (39, [some (.ref 0), some (.int a1), some (.int a2), some (.long a3), none, some (.ref 112)], [.int (D 112 3), .int a2], D, E)) rfl ?_
              refine gv_b hq rfl h 45 42 rfl rfl rfl (fun h => ?_) (fun h => ?_)
              · refine gv_n hq 5 (S' := (54, [some (.ref 0), some (.int a1), some (.int a2), some (.long a3), none, some (.ref 112)], [.long a3, .ref 112, .int a2, .ref 113], D, E)) rfl ?_
                refine gv_d hq rfl rfl rfl rfl rfl ((t_Row_cutToWidth_112 X d D E _ _ rfl)) (S' := (57, [some (.ref 0), some (.int a1), some (.int a2), some (.long a3), none, some (.ref 112)], [.long (g_Row_cutToWidth_112 D a3), .int a2, .ref 113], D, E)) rfl ?_
                refine gv_ls hq rfl rfl h 58 rfl (fun h => ?_)
                refine gv_n hq 1 (S' := (59, [some (.ref 0), some (.int a1), some (.int a2), some (.long a3), none, some (.ref 112)], [.int (nI 0)], D, (sE E 113 (a2).toNatClampNeg (g_Row_cutToWidth_112 D a3)))) rfl ?_
                cases h
                exact ev_ret hq rfl rfl ⟨rfl, rfl, rfl⟩
              · refine gv_n hq 1 (S' := (44, [some (.ref 0), some (.int a1), some (.int a2), some (.long a3), none, some (.ref 112)], [.int (-7 : Int32)], D, E)) rfl ?_
                cases h
                exact ev_ret hq rfl rfl ⟨rfl, rfl, rfl⟩
        · refine gv_if h (fun c3 h => ?_) (fun c3 h => ?_)
          · refine ev_ins hq rfl (S' := (16, [some (.ref 0), some (.int a1), some (.int a2), some (.long a3), none, none], [.ref 114], D, E)) (gv_sw (fun z => ((15, [some (.ref 0), some (.int a1), some (.int a2), some (.long a3), none, none], .int z :: [.ref 62], D, E) : mx_S)) c3 rfl) ?_
            refine gv_n hq 3 (S' := (23, [some (.ref 0), some (.int a1), some (.int a2), some (.long a3), none, some (.ref 114)], [.int (D 114 1)], D, E)) rfl ?_
            refine gv_b hq rfl h 26 29 rfl rfl rfl (fun h => ?_) (fun h => ?_)
            · refine gv_n hq 1 (S' := (28, [some (.ref 0), some (.int a1), some (.int a2), some (.long a3), none, some (.ref 114)], [.int (-6 : Int32)], D, E)) rfl ?_
              cases h
              exact ev_ret hq rfl rfl ⟨rfl, rfl, rfl⟩
            · refine gv_n hq 1 (S' := (30, [some (.ref 0), some (.int a1), some (.int a2), some (.long a3), none, some (.ref 114)], [.int a2], D, E)) rfl ?_
              refine gv_b hq rfl h 42 33 rfl rfl rfl (fun h => ?_) (fun h => ?_)
              · refine gv_n hq 1 (S' := (44, [some (.ref 0), some (.int a1), some (.int a2), some (.long a3), none, some (.ref 114)], [.int (-7 : Int32)], D, E)) rfl ?_
                cases h
                exact ev_ret hq rfl rfl ⟨rfl, rfl, rfl⟩
              · refine gv_n hq 3 (S' := (39, [some (.ref 0), some (.int a1), some (.int a2), some (.long a3), none, some (.ref 114)], [.int (D 114 3), .int a2], D, E)) rfl ?_
                refine gv_b hq rfl h 45 42 rfl rfl rfl (fun h => ?_) (fun h => ?_)
                · refine gv_n hq 5 (S' := (54, [some (.ref 0), some (.int a1), some (.int a2), some (.long a3), none, some (.ref 114)], [.long a3, .ref 114, .int a2, .ref 115], D, E)) rfl ?_
                  refine gv_d hq rfl rfl rfl rfl rfl ((t_Row_cutToWidth_114 X d D E _ _ rfl)) (S' := (57, [some (.ref 0), some (.int a1), some (.int a2), some (.long a3), none, some (.ref 114)], [.long (g_Row_cutToWidth_114 D a3), .int a2, .ref 115], D, E)) rfl ?_
                  refine gv_ls hq rfl rfl h 58 rfl (fun h => ?_)
                  refine gv_n hq 1 (S' := (59, [some (.ref 0), some (.int a1), some (.int a2), some (.long a3), none, some (.ref 114)], [.int (nI 0)], D, (sE E 115 (a2).toNatClampNeg (g_Row_cutToWidth_114 D a3)))) rfl ?_
                  cases h
                  exact ev_ret hq rfl rfl ⟨rfl, rfl, rfl⟩
                · refine gv_n hq 1 (S' := (44, [some (.ref 0), some (.int a1), some (.int a2), some (.long a3), none, some (.ref 114)], [.int (-7 : Int32)], D, E)) rfl ?_
                  cases h
                  exact ev_ret hq rfl rfl ⟨rfl, rfl, rfl⟩
          · cases h
def g_M_cut2 (a0 : Int64) (a2 : Int32) : Int64 := ((a0 <<< ((((nI 64) - ((nI 8) <<< (a2 &&& 31)))).toInt64 &&& 63)) >>> ((((nI 64) - ((nI 8) <<< (a2 &&& 31)))).toInt64 &&& 63))
theorem t_M_cut2 (X : ev_X) (d : Nat) (D : mx_D) (E : mx_E) (a0 : Int64) (a2 : Int32) (v : Int64) (h : g_M_cut2 a0 a2 = v) : ev X d 330 (0, [some (.long a0), none, some (.int a2), none], [], D, E) (qR (some (.long v)) D E) := by
  have hq : kq_m 330 = some kq_q330 := rfl
  unfold g_M_cut2 at h
  refine gv_n hq 11 (S' := (13, [some (.long a0), none, some (.int a2), some (.int ((nI 64) - ((nI 8) <<< (a2 &&& 31))))], [.long ((a0 <<< ((((nI 64) - ((nI 8) <<< (a2 &&& 31)))).toInt64 &&& 63)) >>> ((((nI 64) - ((nI 8) <<< (a2 &&& 31)))).toInt64 &&& 63))], D, E)) rfl ?_
  subst h
  exact ev_ret hq rfl rfl ⟨rfl, rfl, rfl⟩
def g_M_write (D : mx_D) (a1 : Int32) (a2 : Int32) (a3 : Int64) (E : mx_E) : Option (Int32 × mx_E) := (if (g_M_isSlot a1) = 0 then (some ((-2 : Int32), E)) else (rk 4 a1 (if (D 137 (a1).toNatClampNeg) = (-1 : Int32) then (some ((-6 : Int32), E)) else (rk 4 a1 (if (g_M_in ((a2).toInt64) (lN 0) ((((D 137 (a1).toNatClampNeg) - (nI 1))).toInt64)) = 0 then (some ((-7 : Int32), E)) else (rk 4 a1 (rk 240 (((nI 60) * a1) + a2) (some ((nI 0), (sE E 139 ((((nI 60) * a1) + a2)).toNatClampNeg (g_M_cut2 a3 (D 138 (a1).toNatClampNeg))))))))))))
theorem t_M_write (X : ev_X) (d : Nat) (hd : 2 ≤ d + 1) (D : mx_D) (a1 : Int32) (a2 : Int32) (a3 : Int64) (E : mx_E) (v : Int32 × mx_E) (h : g_M_write D a1 a2 a3 E = some v) : ev X (d + 1) 329 (0, [some (.ref 116), some (.int a1), some (.int a2), some (.long a3), none], [], D, E) (qR (some (.int v.1)) D v.2) := by
  have hq : kq_m 329 = some kq_q329 := rfl
  unfold g_M_write at h
  refine gv_n hq 1 (S' := (1, [some (.ref 116), some (.int a1), some (.int a2), some (.long a3), none], [.int a1], D, E)) rfl ?_
  refine gv_d hq rfl rfl rfl rfl rfl (gv_dd (by omega) (t_M_isSlot X (d - 1) (by omega) D E _ _ rfl)) (S' := (4, [some (.ref 116), some (.int a1), some (.int a2), some (.long a3), none], [.int (g_M_isSlot a1)], D, E)) rfl ?_
  refine gv_b hq rfl h 7 10 rfl rfl rfl (fun h => ?_) (fun h => ?_)
  · refine gv_n hq 1 (S' := (9, [some (.ref 116), some (.int a1), some (.int a2), some (.long a3), none], [.int (-2 : Int32)], D, E)) rfl ?_
    cases h
    exact ev_ret hq rfl rfl ⟨rfl, rfl, rfl⟩
  · refine gv_n hq 3 (S' := (15, [some (.ref 116), some (.int a1), some (.int a2), some (.long a3), none], [.int a1, .ref 137], D, E)) rfl ?_
    refine gv_ia hq rfl rfl rfl h 16 rfl (fun h => ?_)
    refine gv_n hq 1 (S' := (17, [some (.ref 116), some (.int a1), some (.int a2), some (.long a3), none], [.int (-1 : Int32), .int (D 137 (a1).toNatClampNeg)], D, E)) rfl ?_
    refine gv_b hq rfl h 20 23 rfl rfl rfl (fun h => ?_) (fun h => ?_)
    · refine gv_n hq 1 (S' := (22, [some (.ref 116), some (.int a1), some (.int a2), some (.long a3), none], [.int (-6 : Int32)], D, E)) rfl ?_
      cases h
      exact ev_ret hq rfl rfl ⟨rfl, rfl, rfl⟩
    · refine gv_n hq 6 (S' := (31, [some (.ref 116), some (.int a1), some (.int a2), some (.long a3), none], [.int a1, .ref 137, .long (lN 0), .long ((a2).toInt64)], D, E)) rfl ?_
      refine gv_ia hq rfl rfl rfl h 32 rfl (fun h => ?_)
      refine gv_n hq 3 (S' := (35, [some (.ref 116), some (.int a1), some (.int a2), some (.long a3), none], [.long ((((D 137 (a1).toNatClampNeg) - (nI 1))).toInt64), .long (lN 0), .long ((a2).toInt64)], D, E)) rfl ?_
      refine gv_d hq rfl rfl rfl rfl rfl ((t_M_in X d D E _ _ _ _ rfl)) (S' := (38, [some (.ref 116), some (.int a1), some (.int a2), some (.long a3), none], [.int (g_M_in ((a2).toInt64) (lN 0) ((((D 137 (a1).toNatClampNeg) - (nI 1))).toInt64))], D, E)) rfl ?_
      refine gv_b hq rfl h 41 44 rfl rfl rfl (fun h => ?_) (fun h => ?_)
      · refine gv_n hq 1 (S' := (43, [some (.ref 116), some (.int a1), some (.int a2), some (.long a3), none], [.int (-7 : Int32)], D, E)) rfl ?_
        cases h
        exact ev_ret hq rfl rfl ⟨rfl, rfl, rfl⟩
      · refine gv_n hq 11 (S' := (60, [some (.ref 116), some (.int a1), some (.int a2), some (.long a3), none], [.int a1, .ref 138, .long a3, .int (((nI 60) * a1) + a2), .ref 139], D, E)) rfl ?_
        refine gv_ia hq rfl rfl rfl h 61 rfl (fun h => ?_)
        refine gv_d hq rfl rfl rfl rfl rfl ((t_M_cut2 X d D E _ _ _ rfl)) (S' := (64, [some (.ref 116), some (.int a1), some (.int a2), some (.long a3), none], [.long (g_M_cut2 a3 (D 138 (a1).toNatClampNeg)), .int (((nI 60) * a1) + a2), .ref 139], D, E)) rfl ?_
        refine gv_ls hq rfl rfl h 65 rfl (fun h => ?_)
        refine gv_n hq 1 (S' := (66, [some (.ref 116), some (.int a1), some (.int a2), some (.long a3), none], [.int (nI 0)], D, (sE E 139 ((((nI 60) * a1) + a2)).toNatClampNeg (g_M_cut2 a3 (D 138 (a1).toNatClampNeg))))) rfl ?_
        cases h
        exact ev_ret hq rfl rfl ⟨rfl, rfl, rfl⟩
def g_Row_holds_108 (D : mx_D) (a1 : Int32) (a2 : Int32) : Int32 := (if a1 < 0 then (nI 0) else (if a2 < 0 then (nI 0) else (if (D 108 3) < a1 then (nI 0) else (if ((D 108 3) - a1) < a2 then (nI 0) else (nI 1)))))
theorem t_Row_holds_108 (X : ev_X) (d : Nat) (D : mx_D) (E : mx_E) (a1 : Int32) (a2 : Int32) (v : Int32) (h : g_Row_holds_108 D a1 a2 = v) : ev X d 81 (0, [some (.ref 108), some (.int a1), some (.int a2)], [], D, E) (qR (some (.int v)) D E) := by
  have hq : kq_m 81 = some kq_q81 := rfl
  unfold g_Row_holds_108 at h
  refine gv_n hq 1 (S' := (1, [some (.ref 108), some (.int a1), some (.int a2)], [.int a1], D, E)) rfl ?_
  refine gv_b hq rfl h 30 4 rfl rfl rfl (fun h => ?_) (fun h => ?_)
  · refine gv_n hq 1 (S' := (31, [some (.ref 108), some (.int a1), some (.int a2)], [.int (nI 0)], D, E)) rfl ?_
    subst h
    exact ev_ret hq rfl rfl ⟨rfl, rfl, rfl⟩
  · refine gv_n hq 1 (S' := (5, [some (.ref 108), some (.int a1), some (.int a2)], [.int a2], D, E)) rfl ?_
    refine gv_b hq rfl h 30 8 rfl rfl rfl (fun h => ?_) (fun h => ?_)
    · refine gv_n hq 1 (S' := (31, [some (.ref 108), some (.int a1), some (.int a2)], [.int (nI 0)], D, E)) rfl ?_
      subst h
      exact ev_ret hq rfl rfl ⟨rfl, rfl, rfl⟩
    · refine gv_n hq 3 (S' := (13, [some (.ref 108), some (.int a1), some (.int a2)], [.int (D 108 3), .int a1], D, E)) rfl ?_
      refine gv_b hq rfl h 30 16 rfl rfl rfl (fun h => ?_) (fun h => ?_)
      · refine gv_n hq 1 (S' := (31, [some (.ref 108), some (.int a1), some (.int a2)], [.int (nI 0)], D, E)) rfl ?_
        subst h
        exact ev_ret hq rfl rfl ⟨rfl, rfl, rfl⟩
      · refine gv_n hq 5 (S' := (23, [some (.ref 108), some (.int a1), some (.int a2)], [.int ((D 108 3) - a1), .int a2], D, E)) rfl ?_
        refine gv_b hq rfl h 30 26 rfl rfl rfl (fun h => ?_) (fun h => ?_)
        · refine gv_n hq 1 (S' := (31, [some (.ref 108), some (.int a1), some (.int a2)], [.int (nI 0)], D, E)) rfl ?_
          subst h
          exact ev_ret hq rfl rfl ⟨rfl, rfl, rfl⟩
        · refine gv_n hq 2 (S' := (31, [some (.ref 108), some (.int a1), some (.int a2)], [.int (nI 1)], D, E)) rfl ?_
          subst h
          exact ev_ret hq rfl rfl ⟨rfl, rfl, rfl⟩
theorem z_Row_holds_108 (D : mx_D) (a1 : Int32) (a2 : Int32) : g_Row_holds_108 D a1 a2 = 0 ∨ g_Row_holds_108 D a1 a2 = 1 := by
  unfold g_Row_holds_108
  (repeat' split) <;> first | exact Or.inl rfl | exact Or.inr rfl
def g_Row_holds_110 (D : mx_D) (a1 : Int32) (a2 : Int32) : Int32 := (if a1 < 0 then (nI 0) else (if a2 < 0 then (nI 0) else (if (D 110 3) < a1 then (nI 0) else (if ((D 110 3) - a1) < a2 then (nI 0) else (nI 1)))))
theorem t_Row_holds_110 (X : ev_X) (d : Nat) (D : mx_D) (E : mx_E) (a1 : Int32) (a2 : Int32) (v : Int32) (h : g_Row_holds_110 D a1 a2 = v) : ev X d 81 (0, [some (.ref 110), some (.int a1), some (.int a2)], [], D, E) (qR (some (.int v)) D E) := by
  have hq : kq_m 81 = some kq_q81 := rfl
  unfold g_Row_holds_110 at h
  refine gv_n hq 1 (S' := (1, [some (.ref 110), some (.int a1), some (.int a2)], [.int a1], D, E)) rfl ?_
  refine gv_b hq rfl h 30 4 rfl rfl rfl (fun h => ?_) (fun h => ?_)
  · refine gv_n hq 1 (S' := (31, [some (.ref 110), some (.int a1), some (.int a2)], [.int (nI 0)], D, E)) rfl ?_
    subst h
    exact ev_ret hq rfl rfl ⟨rfl, rfl, rfl⟩
  · refine gv_n hq 1 (S' := (5, [some (.ref 110), some (.int a1), some (.int a2)], [.int a2], D, E)) rfl ?_
    refine gv_b hq rfl h 30 8 rfl rfl rfl (fun h => ?_) (fun h => ?_)
    · refine gv_n hq 1 (S' := (31, [some (.ref 110), some (.int a1), some (.int a2)], [.int (nI 0)], D, E)) rfl ?_
      subst h
      exact ev_ret hq rfl rfl ⟨rfl, rfl, rfl⟩
    · refine gv_n hq 3 (S' := (13, [some (.ref 110), some (.int a1), some (.int a2)], [.int (D 110 3), .int a1], D, E)) rfl ?_
      refine gv_b hq rfl h 30 16 rfl rfl rfl (fun h => ?_) (fun h => ?_)
      · refine gv_n hq 1 (S' := (31, [some (.ref 110), some (.int a1), some (.int a2)], [.int (nI 0)], D, E)) rfl ?_
        subst h
        exact ev_ret hq rfl rfl ⟨rfl, rfl, rfl⟩
      · refine gv_n hq 5 (S' := (23, [some (.ref 110), some (.int a1), some (.int a2)], [.int ((D 110 3) - a1), .int a2], D, E)) rfl ?_
        refine gv_b hq rfl h 30 26 rfl rfl rfl (fun h => ?_) (fun h => ?_)
        · refine gv_n hq 1 (S' := (31, [some (.ref 110), some (.int a1), some (.int a2)], [.int (nI 0)], D, E)) rfl ?_
          subst h
          exact ev_ret hq rfl rfl ⟨rfl, rfl, rfl⟩
        · refine gv_n hq 2 (S' := (31, [some (.ref 110), some (.int a1), some (.int a2)], [.int (nI 1)], D, E)) rfl ?_
          subst h
          exact ev_ret hq rfl rfl ⟨rfl, rfl, rfl⟩
theorem z_Row_holds_110 (D : mx_D) (a1 : Int32) (a2 : Int32) : g_Row_holds_110 D a1 a2 = 0 ∨ g_Row_holds_110 D a1 a2 = 1 := by
  unfold g_Row_holds_110
  (repeat' split) <;> first | exact Or.inl rfl | exact Or.inr rfl
def g_Row_holds_112 (D : mx_D) (a1 : Int32) (a2 : Int32) : Int32 := (if a1 < 0 then (nI 0) else (if a2 < 0 then (nI 0) else (if (D 112 3) < a1 then (nI 0) else (if ((D 112 3) - a1) < a2 then (nI 0) else (nI 1)))))
theorem t_Row_holds_112 (X : ev_X) (d : Nat) (D : mx_D) (E : mx_E) (a1 : Int32) (a2 : Int32) (v : Int32) (h : g_Row_holds_112 D a1 a2 = v) : ev X d 81 (0, [some (.ref 112), some (.int a1), some (.int a2)], [], D, E) (qR (some (.int v)) D E) := by
  have hq : kq_m 81 = some kq_q81 := rfl
  unfold g_Row_holds_112 at h
  refine gv_n hq 1 (S' := (1, [some (.ref 112), some (.int a1), some (.int a2)], [.int a1], D, E)) rfl ?_
  refine gv_b hq rfl h 30 4 rfl rfl rfl (fun h => ?_) (fun h => ?_)
  · refine gv_n hq 1 (S' := (31, [some (.ref 112), some (.int a1), some (.int a2)], [.int (nI 0)], D, E)) rfl ?_
    subst h
    exact ev_ret hq rfl rfl ⟨rfl, rfl, rfl⟩
  · refine gv_n hq 1 (S' := (5, [some (.ref 112), some (.int a1), some (.int a2)], [.int a2], D, E)) rfl ?_
    refine gv_b hq rfl h 30 8 rfl rfl rfl (fun h => ?_) (fun h => ?_)
    · refine gv_n hq 1 (S' := (31, [some (.ref 112), some (.int a1), some (.int a2)], [.int (nI 0)], D, E)) rfl ?_
      subst h
      exact ev_ret hq rfl rfl ⟨rfl, rfl, rfl⟩
    · refine gv_n hq 3 (S' := (13, [some (.ref 112), some (.int a1), some (.int a2)], [.int (D 112 3), .int a1], D, E)) rfl ?_
      refine gv_b hq rfl h 30 16 rfl rfl rfl (fun h => ?_) (fun h => ?_)
      · refine gv_n hq 1 (S' := (31, [some (.ref 112), some (.int a1), some (.int a2)], [.int (nI 0)], D, E)) rfl ?_
        subst h
        exact ev_ret hq rfl rfl ⟨rfl, rfl, rfl⟩
      · refine gv_n hq 5 (S' := (23, [some (.ref 112), some (.int a1), some (.int a2)], [.int ((D 112 3) - a1), .int a2], D, E)) rfl ?_
        refine gv_b hq rfl h 30 26 rfl rfl rfl (fun h => ?_) (fun h => ?_)
        · refine gv_n hq 1 (S' := (31, [some (.ref 112), some (.int a1), some (.int a2)], [.int (nI 0)], D, E)) rfl ?_
          subst h
          exact ev_ret hq rfl rfl ⟨rfl, rfl, rfl⟩
        · refine gv_n hq 2 (S' := (31, [some (.ref 112), some (.int a1), some (.int a2)], [.int (nI 1)], D, E)) rfl ?_
          subst h
          exact ev_ret hq rfl rfl ⟨rfl, rfl, rfl⟩
theorem z_Row_holds_112 (D : mx_D) (a1 : Int32) (a2 : Int32) : g_Row_holds_112 D a1 a2 = 0 ∨ g_Row_holds_112 D a1 a2 = 1 := by
  unfold g_Row_holds_112
  (repeat' split) <;> first | exact Or.inl rfl | exact Or.inr rfl
def g_Row_holds_114 (D : mx_D) (a1 : Int32) (a2 : Int32) : Int32 := (if a1 < 0 then (nI 0) else (if a2 < 0 then (nI 0) else (if (D 114 3) < a1 then (nI 0) else (if ((D 114 3) - a1) < a2 then (nI 0) else (nI 1)))))
theorem t_Row_holds_114 (X : ev_X) (d : Nat) (D : mx_D) (E : mx_E) (a1 : Int32) (a2 : Int32) (v : Int32) (h : g_Row_holds_114 D a1 a2 = v) : ev X d 81 (0, [some (.ref 114), some (.int a1), some (.int a2)], [], D, E) (qR (some (.int v)) D E) := by
  have hq : kq_m 81 = some kq_q81 := rfl
  unfold g_Row_holds_114 at h
  refine gv_n hq 1 (S' := (1, [some (.ref 114), some (.int a1), some (.int a2)], [.int a1], D, E)) rfl ?_
  refine gv_b hq rfl h 30 4 rfl rfl rfl (fun h => ?_) (fun h => ?_)
  · refine gv_n hq 1 (S' := (31, [some (.ref 114), some (.int a1), some (.int a2)], [.int (nI 0)], D, E)) rfl ?_
    subst h
    exact ev_ret hq rfl rfl ⟨rfl, rfl, rfl⟩
  · refine gv_n hq 1 (S' := (5, [some (.ref 114), some (.int a1), some (.int a2)], [.int a2], D, E)) rfl ?_
    refine gv_b hq rfl h 30 8 rfl rfl rfl (fun h => ?_) (fun h => ?_)
    · refine gv_n hq 1 (S' := (31, [some (.ref 114), some (.int a1), some (.int a2)], [.int (nI 0)], D, E)) rfl ?_
      subst h
      exact ev_ret hq rfl rfl ⟨rfl, rfl, rfl⟩
    · refine gv_n hq 3 (S' := (13, [some (.ref 114), some (.int a1), some (.int a2)], [.int (D 114 3), .int a1], D, E)) rfl ?_
      refine gv_b hq rfl h 30 16 rfl rfl rfl (fun h => ?_) (fun h => ?_)
      · refine gv_n hq 1 (S' := (31, [some (.ref 114), some (.int a1), some (.int a2)], [.int (nI 0)], D, E)) rfl ?_
        subst h
        exact ev_ret hq rfl rfl ⟨rfl, rfl, rfl⟩
      · refine gv_n hq 5 (S' := (23, [some (.ref 114), some (.int a1), some (.int a2)], [.int ((D 114 3) - a1), .int a2], D, E)) rfl ?_
        refine gv_b hq rfl h 30 26 rfl rfl rfl (fun h => ?_) (fun h => ?_)
        · refine gv_n hq 1 (S' := (31, [some (.ref 114), some (.int a1), some (.int a2)], [.int (nI 0)], D, E)) rfl ?_
          subst h
          exact ev_ret hq rfl rfl ⟨rfl, rfl, rfl⟩
        · refine gv_n hq 2 (S' := (31, [some (.ref 114), some (.int a1), some (.int a2)], [.int (nI 1)], D, E)) rfl ?_
          subst h
          exact ev_ret hq rfl rfl ⟨rfl, rfl, rfl⟩
theorem z_Row_holds_114 (D : mx_D) (a1 : Int32) (a2 : Int32) : g_Row_holds_114 D a1 a2 = 0 ∨ g_Row_holds_114 D a1 a2 = 1 := by
  unfold g_Row_holds_114
  (repeat' split) <;> first | exact Or.inl rfl | exact Or.inr rfl
def g_X_paste (D : mx_D) (a1 : Int32) (a2 : Int32) (a3 : Int32) (a4 : Int32) (a5 : Int32) (E : mx_E) : Option (Int32 × mx_E) := (if (g_X_isSlot a1) = 0 then (some ((-2 : Int32), E)) else (if (g_X_isSlot a3) = 0 then (some ((-2 : Int32), E)) else (if a1 = (nI 0) then (if a3 = (nI 0) then (if (D 108 1) = 0 then (some ((-6 : Int32), E)) else (if (D 108 1) = 0 then (some ((-6 : Int32), E)) else (if (D 108 2) = (D 108 2) then (if (g_Row_holds_108 D a2 a5) = 0 then (some ((-7 : Int32), E)) else (if (g_Row_holds_108 D a4 a5) = 0 then (some ((-7 : Int32), E)) else (ak a2 a4 a5 60 60 (some ((nI 0), (cE E 109 109 (a2).toNatClampNeg (a4).toNatClampNeg (a5).toNatClampNeg)))))) else (some ((-8 : Int32), E))))) else (if a3 = (nI 1) then (if (D 108 1) = 0 then (some ((-6 : Int32), E)) else (if (D 110 1) = 0 then (some ((-6 : Int32), E)) else (if (D 108 2) = (D 110 2) then (if (g_Row_holds_108 D a2 a5) = 0 then (some ((-7 : Int32), E)) else (if (g_Row_holds_110 D a4 a5) = 0 then (some ((-7 : Int32), E)) else (ak a2 a4 a5 60 60 (some ((nI 0), (cE E 109 111 (a2).toNatClampNeg (a4).toNatClampNeg (a5).toNatClampNeg)))))) else (some ((-8 : Int32), E))))) else (if a3 = (nI 2) then (if (D 108 1) = 0 then (some ((-6 : Int32), E)) else (if (D 112 1) = 0 then (some ((-6 : Int32), E)) else (if (D 108 2) = (D 112 2) then (if (g_Row_holds_108 D a2 a5) = 0 then (some ((-7 : Int32), E)) else (if (g_Row_holds_112 D a4 a5) = 0 then (some ((-7 : Int32), E)) else (ak a2 a4 a5 60 60 (some ((nI 0), (cE E 109 113 (a2).toNatClampNeg (a4).toNatClampNeg (a5).toNatClampNeg)))))) else (some ((-8 : Int32), E))))) else (if a3 = (nI 3) then (if (D 108 1) = 0 then (some ((-6 : Int32), E)) else (if (D 114 1) = 0 then (some ((-6 : Int32), E)) else (if (D 108 2) = (D 114 2) then (if (g_Row_holds_108 D a2 a5) = 0 then (some ((-7 : Int32), E)) else (if (g_Row_holds_114 D a4 a5) = 0 then (some ((-7 : Int32), E)) else (ak a2 a4 a5 60 60 (some ((nI 0), (cE E 109 115 (a2).toNatClampNeg (a4).toNatClampNeg (a5).toNatClampNeg)))))) else (some ((-8 : Int32), E))))) else none)))) else (if a1 = (nI 1) then (if a3 = (nI 0) then (if (D 110 1) = 0 then (some ((-6 : Int32), E)) else (if (D 108 1) = 0 then (some ((-6 : Int32), E)) else (if (D 110 2) = (D 108 2) then (if (g_Row_holds_110 D a2 a5) = 0 then (some ((-7 : Int32), E)) else (if (g_Row_holds_108 D a4 a5) = 0 then (some ((-7 : Int32), E)) else (ak a2 a4 a5 60 60 (some ((nI 0), (cE E 111 109 (a2).toNatClampNeg (a4).toNatClampNeg (a5).toNatClampNeg)))))) else (some ((-8 : Int32), E))))) else (if a3 = (nI 1) then (if (D 110 1) = 0 then (some ((-6 : Int32), E)) else (if (D 110 1) = 0 then (some ((-6 : Int32), E)) else (if (D 110 2) = (D 110 2) then (if (g_Row_holds_110 D a2 a5) = 0 then (some ((-7 : Int32), E)) else (if (g_Row_holds_110 D a4 a5) = 0 then (some ((-7 : Int32), E)) else (ak a2 a4 a5 60 60 (some ((nI 0), (cE E 111 111 (a2).toNatClampNeg (a4).toNatClampNeg (a5).toNatClampNeg)))))) else (some ((-8 : Int32), E))))) else (if a3 = (nI 2) then (if (D 110 1) = 0 then (some ((-6 : Int32), E)) else (if (D 112 1) = 0 then (some ((-6 : Int32), E)) else (if (D 110 2) = (D 112 2) then (if (g_Row_holds_110 D a2 a5) = 0 then (some ((-7 : Int32), E)) else (if (g_Row_holds_112 D a4 a5) = 0 then (some ((-7 : Int32), E)) else (ak a2 a4 a5 60 60 (some ((nI 0), (cE E 111 113 (a2).toNatClampNeg (a4).toNatClampNeg (a5).toNatClampNeg)))))) else (some ((-8 : Int32), E))))) else (if a3 = (nI 3) then (if (D 110 1) = 0 then (some ((-6 : Int32), E)) else (if (D 114 1) = 0 then (some ((-6 : Int32), E)) else (if (D 110 2) = (D 114 2) then (if (g_Row_holds_110 D a2 a5) = 0 then (some ((-7 : Int32), E)) else (if (g_Row_holds_114 D a4 a5) = 0 then (some ((-7 : Int32), E)) else (ak a2 a4 a5 60 60 (some ((nI 0), (cE E 111 115 (a2).toNatClampNeg (a4).toNatClampNeg (a5).toNatClampNeg)))))) else (some ((-8 : Int32), E))))) else none)))) else (if a1 = (nI 2) then (if a3 = (nI 0) then (if (D 112 1) = 0 then (some ((-6 : Int32), E)) else (if (D 108 1) = 0 then (some ((-6 : Int32), E)) else (if (D 112 2) = (D 108 2) then (if (g_Row_holds_112 D a2 a5) = 0 then (some ((-7 : Int32), E)) else (if (g_Row_holds_108 D a4 a5) = 0 then (some ((-7 : Int32), E)) else (ak a2 a4 a5 60 60 (some ((nI 0), (cE E 113 109 (a2).toNatClampNeg (a4).toNatClampNeg (a5).toNatClampNeg)))))) else (some ((-8 : Int32), E))))) else (if a3 = (nI 1) then (if (D 112 1) = 0 then (some ((-6 : Int32), E)) else (if (D 110 1) = 0 then (some ((-6 : Int32), E)) else (if (D 112 2) = (D 110 2) then (if (g_Row_holds_112 D a2 a5) = 0 then (some ((-7 : Int32), E)) else (if (g_Row_holds_110 D a4 a5) = 0 then (some ((-7 : Int32), E)) else (ak a2 a4 a5 60 60 (some ((nI 0), (cE E 113 111 (a2).toNatClampNeg (a4).toNatClampNeg (a5).toNatClampNeg)))))) else (some ((-8 : Int32), E))))) else (if a3 = (nI 2) then (if (D 112 1) = 0 then (some ((-6 : Int32), E)) else (if (D 112 1) = 0 then (some ((-6 : Int32), E)) else (if (D 112 2) = (D 112 2) then (if (g_Row_holds_112 D a2 a5) = 0 then (some ((-7 : Int32), E)) else (if (g_Row_holds_112 D a4 a5) = 0 then (some ((-7 : Int32), E)) else (ak a2 a4 a5 60 60 (some ((nI 0), (cE E 113 113 (a2).toNatClampNeg (a4).toNatClampNeg (a5).toNatClampNeg)))))) else (some ((-8 : Int32), E))))) else (if a3 = (nI 3) then (if (D 112 1) = 0 then (some ((-6 : Int32), E)) else (if (D 114 1) = 0 then (some ((-6 : Int32), E)) else (if (D 112 2) = (D 114 2) then (if (g_Row_holds_112 D a2 a5) = 0 then (some ((-7 : Int32), E)) else (if (g_Row_holds_114 D a4 a5) = 0 then (some ((-7 : Int32), E)) else (ak a2 a4 a5 60 60 (some ((nI 0), (cE E 113 115 (a2).toNatClampNeg (a4).toNatClampNeg (a5).toNatClampNeg)))))) else (some ((-8 : Int32), E))))) else none)))) else (if a1 = (nI 3) then (if a3 = (nI 0) then (if (D 114 1) = 0 then (some ((-6 : Int32), E)) else (if (D 108 1) = 0 then (some ((-6 : Int32), E)) else (if (D 114 2) = (D 108 2) then (if (g_Row_holds_114 D a2 a5) = 0 then (some ((-7 : Int32), E)) else (if (g_Row_holds_108 D a4 a5) = 0 then (some ((-7 : Int32), E)) else (ak a2 a4 a5 60 60 (some ((nI 0), (cE E 115 109 (a2).toNatClampNeg (a4).toNatClampNeg (a5).toNatClampNeg)))))) else (some ((-8 : Int32), E))))) else (if a3 = (nI 1) then (if (D 114 1) = 0 then (some ((-6 : Int32), E)) else (if (D 110 1) = 0 then (some ((-6 : Int32), E)) else (if (D 114 2) = (D 110 2) then (if (g_Row_holds_114 D a2 a5) = 0 then (some ((-7 : Int32), E)) else (if (g_Row_holds_110 D a4 a5) = 0 then (some ((-7 : Int32), E)) else (ak a2 a4 a5 60 60 (some ((nI 0), (cE E 115 111 (a2).toNatClampNeg (a4).toNatClampNeg (a5).toNatClampNeg)))))) else (some ((-8 : Int32), E))))) else (if a3 = (nI 2) then (if (D 114 1) = 0 then (some ((-6 : Int32), E)) else (if (D 112 1) = 0 then (some ((-6 : Int32), E)) else (if (D 114 2) = (D 112 2) then (if (g_Row_holds_114 D a2 a5) = 0 then (some ((-7 : Int32), E)) else (if (g_Row_holds_112 D a4 a5) = 0 then (some ((-7 : Int32), E)) else (ak a2 a4 a5 60 60 (some ((nI 0), (cE E 115 113 (a2).toNatClampNeg (a4).toNatClampNeg (a5).toNatClampNeg)))))) else (some ((-8 : Int32), E))))) else (if a3 = (nI 3) then (if (D 114 1) = 0 then (some ((-6 : Int32), E)) else (if (D 114 1) = 0 then (some ((-6 : Int32), E)) else (if (D 114 2) = (D 114 2) then (if (g_Row_holds_114 D a2 a5) = 0 then (some ((-7 : Int32), E)) else (if (g_Row_holds_114 D a4 a5) = 0 then (some ((-7 : Int32), E)) else (ak a2 a4 a5 60 60 (some ((nI 0), (cE E 115 115 (a2).toNatClampNeg (a4).toNatClampNeg (a5).toNatClampNeg)))))) else (some ((-8 : Int32), E))))) else none)))) else none))))))
theorem t_X_paste (X : ev_X) (d : Nat) (hd : 1 ≤ d + 1) (D : mx_D) (a1 : Int32) (a2 : Int32) (a3 : Int32) (a4 : Int32) (a5 : Int32) (E : mx_E) (v : Int32 × mx_E) (h : g_X_paste D a1 a2 a3 a4 a5 E = some v) : ev X (d + 1) 180 (0, [some (.ref 0), some (.int a1), some (.int a2), some (.int a3), some (.int a4), some (.int a5), none, none], [], D, E) (qR (some (.int v.1)) D v.2) := by
  have hq : kq_m 180 = some kq_q180 := rfl
  unfold g_X_paste at h
  refine gv_n hq 1 (S' := (1, [some (.ref 0), some (.int a1), some (.int a2), some (.int a3), some (.int a4), some (.int a5), none, none], [.int a1], D, E)) rfl ?_
  refine gv_d hq rfl rfl rfl rfl rfl ((t_X_isSlot X d D E _ _ rfl)) (S' := (4, [some (.ref 0), some (.int a1), some (.int a2), some (.int a3), some (.int a4), some (.int a5), none, none], [.int (g_X_isSlot a1)], D, E)) rfl ?_
  refine gv_b hq rfl h 14 7 rfl rfl rfl (fun h => ?_) (fun h => ?_)
  · refine gv_n hq 1 (S' := (16, [some (.ref 0), some (.int a1), some (.int a2), some (.int a3), some (.int a4), some (.int a5), none, none], [.int (-2 : Int32)], D, E)) rfl ?_
    cases h
    exact ev_ret hq rfl rfl ⟨rfl, rfl, rfl⟩
  · refine gv_n hq 1 (S' := (8, [some (.ref 0), some (.int a1), some (.int a2), some (.int a3), some (.int a4), some (.int a5), none, none], [.int a3], D, E)) rfl ?_
    refine gv_d hq rfl rfl rfl rfl rfl ((t_X_isSlot X d D E _ _ rfl)) (S' := (11, [some (.ref 0), some (.int a1), some (.int a2), some (.int a3), some (.int a4), some (.int a5), none, none], [.int (g_X_isSlot a3)], D, E)) rfl ?_
    refine gv_b hq rfl h 14 17 rfl rfl rfl (fun h => ?_) (fun h => ?_)
    · refine gv_n hq 1 (S' := (16, [some (.ref 0), some (.int a1), some (.int a2), some (.int a3), some (.int a4), some (.int a5), none, none], [.int (-2 : Int32)], D, E)) rfl ?_
      cases h
      exact ev_ret hq rfl rfl ⟨rfl, rfl, rfl⟩
    · refine gv_n hq 3 (S' := (22, [some (.ref 0), some (.int a1), some (.int a2), some (.int a3), some (.int a4), some (.int a5), none, none], [.int a1, .ref 62], D, E)) rfl ?_
      refine gv_if h (fun c0 h => ?_) (fun c0 h => ?_)
      · refine ev_ins hq rfl (S' := (23, [some (.ref 0), some (.int a1), some (.int a2), some (.int a3), some (.int a4), some (.int a5), none, none], [.ref 108], D, E)) (gv_sw (fun z => ((22, [some (.ref 0), some (.int a1), some (.int a2), some (.int a3), some (.int a4), some (.int a5), none, none], .int z :: [.ref 62], D, E) : mx_S)) c0 rfl) ?_
        refine gv_n hq 4 (S' := (30, [some (.ref 0), some (.int a1), some (.int a2), some (.int a3), some (.int a4), some (.int a5), some (.ref 108), none], [.int a3, .ref 62], D, E)) rfl ?_
        refine gv_if h (fun c0 h => ?_) (fun c0 h => ?_)
        · refine ev_ins hq rfl (S' := (31, [some (.ref 0), some (.int a1), some (.int a2), some (.int a3), some (.int a4), some (.int a5), some (.ref 108), none], [.ref 108], D, E)) (gv_sw (fun z => ((30, [some (.ref 0), some (.int a1), some (.int a2), some (.int a3), some (.int a4), some (.int a5), some (.ref 108), none], .int z :: [.ref 62], D, E) : mx_S)) c0 rfl) ?_
          refine gv_n hq 3 (S' := (38, [some (.ref 0), some (.int a1), some (.int a2), some (.int a3), some (.int a4), some (.int a5), some (.ref 108), some (.ref 108)], [.int (D 108 1)], D, E)) rfl ?_
          refine gv_b hq rfl h 49 41 rfl rfl rfl (fun h => ?_) (fun h => ?_)
          · refine gv_n hq 1 (S' := (51, [some (.ref 0), some (.int a1), some (.int a2), some (.int a3), some (.int a4), some (.int a5), some (.ref 108), some (.ref 108)], [.int (-6 : Int32)], D, E)) rfl ?_
            cases h
            exact ev_ret hq rfl rfl ⟨rfl, rfl, rfl⟩
          · refine gv_n hq 2 (S' := (46, [some (.ref 0), some (.int a1), some (.int a2), some (.int a3), some (.int a4), some (.int a5), some (.ref 108), some (.ref 108)], [.int (D 108 1)], D, E)) rfl ?_
            refine gv_b hq rfl h 49 52 rfl rfl rfl (fun h => ?_) (fun h => ?_)
            · refine gv_n hq 1 (S' := (51, [some (.ref 0), some (.int a1), some (.int a2), some (.int a3), some (.int a4), some (.int a5), some (.ref 108), some (.ref 108)], [.int (-6 : Int32)], D, E)) rfl ?_
              cases h
              exact ev_ret hq rfl rfl ⟨rfl, rfl, rfl⟩
            · refine gv_n hq 4 (S' := (62, [some (.ref 0), some (.int a1), some (.int a2), some (.int a3), some (.int a4), some (.int a5), some (.ref 108), some (.ref 108)], [.int (D 108 2), .int (D 108 2)], D, E)) rfl ?_
              refine gv_b hq rfl h 68 65 rfl rfl rfl (fun h => ?_) (fun h => ?_)
              · refine gv_n hq 3 (S' := (73, [some (.ref 0), some (.int a1), some (.int a2), some (.int a3), some (.int a4), some (.int a5), some (.ref 108), some (.ref 108)], [.int a5, .int a2, .ref 108], D, E)) rfl ?_
                refine gv_d hq rfl rfl rfl rfl rfl ((t_Row_holds_108 X d D E _ _ _ rfl)) (S' := (76, [some (.ref 0), some (.int a1), some (.int a2), some (.int a3), some (.int a4), some (.int a5), some (.ref 108), some (.ref 108)], [.int (g_Row_holds_108 D a2 a5)], D, E)) rfl ?_
                refine gv_b hq rfl h 91 79 rfl rfl rfl (fun h => ?_) (fun h => ?_)
                · refine gv_n hq 1 (S' := (93, [some (.ref 0), some (.int a1), some (.int a2), some (.int a3), some (.int a4), some (.int a5), some (.ref 108), some (.ref 108)], [.int (-7 : Int32)], D, E)) rfl ?_
                  cases h
                  exact ev_ret hq rfl rfl ⟨rfl, rfl, rfl⟩
                · refine gv_n hq 3 (S' := (85, [some (.ref 0), some (.int a1), some (.int a2), some (.int a3), some (.int a4), some (.int a5), some (.ref 108), some (.ref 108)], [.int a5, .int a4, .ref 108], D, E)) rfl ?_
                  refine gv_d hq rfl rfl rfl rfl rfl ((t_Row_holds_108 X d D E _ _ _ rfl)) (S' := (88, [some (.ref 0), some (.int a1), some (.int a2), some (.int a3), some (.int a4), some (.int a5), some (.ref 108), some (.ref 108)], [.int (g_Row_holds_108 D a4 a5)], D, E)) rfl ?_
                  refine gv_b hq rfl h 91 94 rfl rfl rfl (fun h => ?_) (fun h => ?_)
                  · refine gv_n hq 1 (S' := (93, [some (.ref 0), some (.int a1), some (.int a2), some (.int a3), some (.int a4), some (.int a5), some (.ref 108), some (.ref 108)], [.int (-7 : Int32)], D, E)) rfl ?_
                    cases h
                    exact ev_ret hq rfl rfl ⟨rfl, rfl, rfl⟩
                  · refine gv_n hq 7 (S' := (109, [some (.ref 0), some (.int a1), some (.int a2), some (.int a3), some (.int a4), some (.int a5), some (.ref 108), some (.ref 108)], [.int a5, .int a4, .ref 109, .int a2, .ref 109], D, E)) rfl ?_
                    refine gv_cp hq rfl h (S' := (112, [some (.ref 0), some (.int a1), some (.int a2), some (.int a3), some (.int a4), some (.int a5), some (.ref 108), some (.ref 108)], [], D, (cE E 109 109 (a2).toNatClampNeg (a4).toNatClampNeg (a5).toNatClampNeg))) rfl rfl (fun h => ?_)
                    refine gv_n hq 1 (S' := (113, [some (.ref 0), some (.int a1), some (.int a2), some (.int a3), some (.int a4), some (.int a5), some (.ref 108), some (.ref 108)], [.int (nI 0)], D, (cE E 109 109 (a2).toNatClampNeg (a4).toNatClampNeg (a5).toNatClampNeg))) rfl ?_
                    cases h
                    exact ev_ret hq rfl rfl ⟨rfl, rfl, rfl⟩
              · refine gv_n hq 1 (S' := (67, [some (.ref 0), some (.int a1), some (.int a2), some (.int a3), some (.int a4), some (.int a5), some (.ref 108), some (.ref 108)], [.int (-8 : Int32)], D, E)) rfl ?_
                cases h
                exact ev_ret hq rfl rfl ⟨rfl, rfl, rfl⟩
        · refine gv_if h (fun c1 h => ?_) (fun c1 h => ?_)
          · refine ev_ins hq rfl (S' := (31, [some (.ref 0), some (.int a1), some (.int a2), some (.int a3), some (.int a4), some (.int a5), some (.ref 108), none], [.ref 110], D, E)) (gv_sw (fun z => ((30, [some (.ref 0), some (.int a1), some (.int a2), some (.int a3), some (.int a4), some (.int a5), some (.ref 108), none], .int z :: [.ref 62], D, E) : mx_S)) c1 rfl) ?_
            refine gv_n hq 3 (S' := (38, [some (.ref 0), some (.int a1), some (.int a2), some (.int a3), some (.int a4), some (.int a5), some (.ref 108), some (.ref 110)], [.int (D 108 1)], D, E)) rfl ?_
            refine gv_b hq rfl h 49 41 rfl rfl rfl (fun h => ?_) (fun h => ?_)
            · refine gv_n hq 1 (S' := (51, [some (.ref 0), some (.int a1), some (.int a2), some (.int a3), some (.int a4), some (.int a5), some (.ref 108), some (.ref 110)], [.int (-6 : Int32)], D, E)) rfl ?_
              cases h
              exact ev_ret hq rfl rfl ⟨rfl, rfl, rfl⟩
            · refine gv_n hq 2 (S' := (46, [some (.ref 0), some (.int a1), some (.int a2), some (.int a3), some (.int a4), some (.int a5), some (.ref 108), some (.ref 110)], [.int (D 110 1)], D, E)) rfl ?_
              refine gv_b hq rfl h 49 52 rfl rfl rfl (fun h => ?_) (fun h => ?_)
              · refine gv_n hq 1 (S' := (51, [some (.ref 0), some (.int a1), some (.int a2), some (.int a3), some (.int a4), some (.int a5), some (.ref 108), some (.ref 110)], [.int (-6 : Int32)], D, E)) rfl ?_
                cases h
                exact ev_ret hq rfl rfl ⟨rfl, rfl, rfl⟩
              · refine gv_n hq 4 (S' := (62, [some (.ref 0), some (.int a1), some (.int a2), some (.int a3), some (.int a4), some (.int a5), some (.ref 108), some (.ref 110)], [.int (D 110 2), .int (D 108 2)], D, E)) rfl ?_
                refine gv_b hq rfl h 68 65 rfl rfl rfl (fun h => ?_) (fun h => ?_)
                · refine gv_n hq 3 (S' := (73, [some (.ref 0), some (.int a1), some (.int a2), some (.int a3), some (.int a4), some (.int a5), some (.ref 108), some (.ref 110)], [.int a5, .int a2, .ref 108], D, E)) rfl ?_
                  refine gv_d hq rfl rfl rfl rfl rfl ((t_Row_holds_108 X d D E _ _ _ rfl)) (S' := (76, [some (.ref 0), some (.int a1), some (.int a2), some (.int a3), some (.int a4), some (.int a5), some (.ref 108), some (.ref 110)], [.int (g_Row_holds_108 D a2 a5)], D, E)) rfl ?_
                  refine gv_b hq rfl h 91 79 rfl rfl rfl (fun h => ?_) (fun h => ?_)
                  · refine gv_n hq 1 (S' := (93, [some (.ref 0), some (.int a1), some (.int a2), some (.int a3), some (.int a4), some (.int a5), some (.ref 108), some (.ref 110)], [.int (-7 : Int32)], D, E)) rfl ?_
                    cases h
                    exact ev_ret hq rfl rfl ⟨rfl, rfl, rfl⟩
                  · refine gv_n hq 3 (S' := (85, [some (.ref 0), some (.int a1), some (.int a2), some (.int a3), some (.int a4), some (.int a5), some (.ref 108), some (.ref 110)], [.int a5, .int a4, .ref 110], D, E)) rfl ?_
                    refine gv_d hq rfl rfl rfl rfl rfl ((t_Row_holds_110 X d D E _ _ _ rfl)) (S' := (88, [some (.ref 0), some (.int a1), some (.int a2), some (.int a3), some (.int a4), some (.int a5), some (.ref 108), some (.ref 110)], [.int (g_Row_holds_110 D a4 a5)], D, E)) rfl ?_
                    refine gv_b hq rfl h 91 94 rfl rfl rfl (fun h => ?_) (fun h => ?_)
                    · refine gv_n hq 1 (S' := (93, [some (.ref 0), some (.int a1), some (.int a2), some (.int a3), some (.int a4), some (.int a5), some (.ref 108), some (.ref 110)], [.int (-7 : Int32)], D, E)) rfl ?_
                      cases h
                      exact ev_ret hq rfl rfl ⟨rfl, rfl, rfl⟩
                    · refine gv_n hq 7 (S' := (109, [some (.ref 0), some (.int a1), some (.int a2), some (.int a3), some (.int a4), some (.int a5), some (.ref 108), some (.ref 110)], [.int a5, .int a4, .ref 111, .int a2, .ref 109], D, E)) rfl ?_
                      refine gv_cp hq rfl h (S' := (112, [some (.ref 0), some (.int a1), some (.int a2), some (.int a3), some (.int a4), some (.int a5), some (.ref 108), some (.ref 110)], [], D, (cE E 109 111 (a2).toNatClampNeg (a4).toNatClampNeg (a5).toNatClampNeg))) rfl rfl (fun h => ?_)
                      refine gv_n hq 1 (S' := (113, [some (.ref 0), some (.int a1), some (.int a2), some (.int a3), some (.int a4), some (.int a5), some (.ref 108), some (.ref 110)], [.int (nI 0)], D, (cE E 109 111 (a2).toNatClampNeg (a4).toNatClampNeg (a5).toNatClampNeg))) rfl ?_
                      cases h
                      exact ev_ret hq rfl rfl ⟨rfl, rfl, rfl⟩
                · refine gv_n hq 1 (S' := (67, [some (.ref 0), some (.int a1), some (.int a2), some (.int a3), some (.int a4), some (.int a5), some (.ref 108), some (.ref 110)], [.int (-8 : Int32)], D, E)) rfl ?_
                  cases h
                  exact ev_ret hq rfl rfl ⟨rfl, rfl, rfl⟩
          · refine gv_if h (fun c2 h => ?_) (fun c2 h => ?_)
            · refine ev_ins hq rfl (S' := (31, [some (.ref 0), some (.int a1), some (.int a2), some (.int a3), some (.int a4), some (.int a5), some (.ref 108), none], [.ref 112], D, E)) (gv_sw (fun z => ((30, [some (.ref 0), some (.int a1), some (.int a2), some (.int a3), some (.int a4), some (.int a5), some (.ref 108), none], .int z :: [.ref 62], D, E) : mx_S)) c2 rfl) ?_
              refine gv_n hq 3 (S' := (38, [some (.ref 0), some (.int a1), some (.int a2), some (.int a3), some (.int a4), some (.int a5), some (.ref 108), some (.ref 112)], [.int (D 108 1)], D, E)) rfl ?_
              refine gv_b hq rfl h 49 41 rfl rfl rfl (fun h => ?_) (fun h => ?_)
              · refine gv_n hq 1 (S' := (51, [some (.ref 0), some (.int a1), some (.int a2), some (.int a3), some (.int a4), some (.int a5), some (.ref 108), some (.ref 112)], [.int (-6 : Int32)], D, E)) rfl ?_
                cases h
                exact ev_ret hq rfl rfl ⟨rfl, rfl, rfl⟩
              · refine gv_n hq 2 (S' := (46, [some (.ref 0), some (.int a1), some (.int a2), some (.int a3), some (.int a4), some (.int a5), some (.ref 108), some (.ref 112)], [.int (D 112 1)], D, E)) rfl ?_
                refine gv_b hq rfl h 49 52 rfl rfl rfl (fun h => ?_) (fun h => ?_)
                · refine gv_n hq 1 (S' := (51, [some (.ref 0), some (.int a1), some (.int a2), some (.int a3), some (.int a4), some (.int a5), some (.ref 108), some (.ref 112)], [.int (-6 : Int32)], D, E)) rfl ?_
                  cases h
                  exact ev_ret hq rfl rfl ⟨rfl, rfl, rfl⟩
                · refine gv_n hq 4 (S' := (62, [some (.ref 0), some (.int a1), some (.int a2), some (.int a3), some (.int a4), some (.int a5), some (.ref 108), some (.ref 112)], [.int (D 112 2), .int (D 108 2)], D, E)) rfl ?_
                  refine gv_b hq rfl h 68 65 rfl rfl rfl (fun h => ?_) (fun h => ?_)
                  · refine gv_n hq 3 (S' := (73, [some (.ref 0), some (.int a1), some (.int a2), some (.int a3), some (.int a4), some (.int a5), some (.ref 108), some (.ref 112)], [.int a5, .int a2, .ref 108], D, E)) rfl ?_
                    refine gv_d hq rfl rfl rfl rfl rfl ((t_Row_holds_108 X d D E _ _ _ rfl)) (S' := (76, [some (.ref 0), some (.int a1), some (.int a2), some (.int a3), some (.int a4), some (.int a5), some (.ref 108), some (.ref 112)], [.int (g_Row_holds_108 D a2 a5)], D, E)) rfl ?_
                    refine gv_b hq rfl h 91 79 rfl rfl rfl (fun h => ?_) (fun h => ?_)
                    · refine gv_n hq 1 (S' := (93, [some (.ref 0), some (.int a1), some (.int a2), some (.int a3), some (.int a4), some (.int a5), some (.ref 108), some (.ref 112)], [.int (-7 : Int32)], D, E)) rfl ?_
                      cases h
                      exact ev_ret hq rfl rfl ⟨rfl, rfl, rfl⟩
                    · refine gv_n hq 3 (S' := (85, [some (.ref 0), some (.int a1), some (.int a2), some (.int a3), some (.int a4), some (.int a5), some (.ref 108), some (.ref 112)], [.int a5, .int a4, .ref 112], D, E)) rfl ?_
                      refine gv_d hq rfl rfl rfl rfl rfl ((t_Row_holds_112 X d D E _ _ _ rfl)) (S' := (88, [some (.ref 0), some (.int a1), some (.int a2), some (.int a3), some (.int a4), some (.int a5), some (.ref 108), some (.ref 112)], [.int (g_Row_holds_112 D a4 a5)], D, E)) rfl ?_
                      refine gv_b hq rfl h 91 94 rfl rfl rfl (fun h => ?_) (fun h => ?_)
                      · refine gv_n hq 1 (S' := (93, [some (.ref 0), some (.int a1), some (.int a2), some (.int a3), some (.int a4), some (.int a5), some (.ref 108), some (.ref 112)], [.int (-7 : Int32)], D, E)) rfl ?_
                        cases h
                        exact ev_ret hq rfl rfl ⟨rfl, rfl, rfl⟩
                      · refine gv_n hq 7 (S' := (109, [some (.ref 0), some (.int a1), some (.int a2), some (.int a3), some (.int a4), some (.int a5), some (.ref 108), some (.ref 112)], [.int a5, .int a4, .ref 113, .int a2, .ref 109], D, E)) rfl ?_
                        refine gv_cp hq rfl h (S' := (112, [some (.ref 0), some (.int a1), some (.int a2), some (.int a3), some (.int a4), some (.int a5), some (.ref 108), some (.ref 112)], [], D, (cE E 109 113 (a2).toNatClampNeg (a4).toNatClampNeg (a5).toNatClampNeg))) rfl rfl (fun h => ?_)
                        refine gv_n hq 1 (S' := (113, [some (.ref 0), some (.int a1), some (.int a2), some (.int a3), some (.int a4), some (.int a5), some (.ref 108), some (.ref 112)], [.int (nI 0)], D, (cE E 109 113 (a2).toNatClampNeg (a4).toNatClampNeg (a5).toNatClampNeg))) rfl ?_
                        cases h
                        exact ev_ret hq rfl rfl ⟨rfl, rfl, rfl⟩
                  · refine gv_n hq 1 (S' := (67, [some (.ref 0), some (.int a1), some (.int a2), some (.int a3), some (.int a4), some (.int a5), some (.ref 108), some (.ref 112)], [.int (-8 : Int32)], D, E)) rfl ?_
                    cases h
                    exact ev_ret hq rfl rfl ⟨rfl, rfl, rfl⟩
            · refine gv_if h (fun c3 h => ?_) (fun c3 h => ?_)
              · refine ev_ins hq rfl (S' := (31, [some (.ref 0), some (.int a1), some (.int a2), some (.int a3), some (.int a4), some (.int a5), some (.ref 108), none], [.ref 114], D, E)) (gv_sw (fun z => ((30, [some (.ref 0), some (.int a1), some (.int a2), some (.int a3), some (.int a4), some (.int a5), some (.ref 108), none], .int z :: [.ref 62], D, E) : mx_S)) c3 rfl) ?_
                refine gv_n hq 3 (S' := (38, [some (.ref 0), some (.int a1), some (.int a2), some (.int a3), some (.int a4), some (.int a5), some (.ref 108), some (.ref 114)], [.int (D 108 1)], D, E)) rfl ?_
                refine gv_b hq rfl h 49 41 rfl rfl rfl (fun h => ?_) (fun h => ?_)
                · refine gv_n hq 1 (S' := (51, [some (.ref 0), some (.int a1), some (.int a2), some (.int a3), some (.int a4), some (.int a5), some (.ref 108), some (.ref 114)], [.int (-6 : Int32)], D, E)) rfl ?_
                  cases h
                  exact ev_ret hq rfl rfl ⟨rfl, rfl, rfl⟩
                · refine gv_n hq 2 (S' := (46, [some (.ref 0), some (.int a1), some (.int a2), some (.int a3), some (.int a4), some (.int a5), some (.ref 108), some (.ref 114)], [.int (D 114 1)], D, E)) rfl ?_
                  refine gv_b hq rfl h 49 52 rfl rfl rfl (fun h => ?_) (fun h => ?_)
                  · refine gv_n hq 1 (S' := (51, [some (.ref 0), some (.int a1), some (.int a2), some (.int a3), some (.int a4), some (.int a5), some (.ref 108), some (.ref 114)], [.int (-6 : Int32)], D, E)) rfl ?_
                    cases h
                    exact ev_ret hq rfl rfl ⟨rfl, rfl, rfl⟩
                  · refine gv_n hq 4 (S' := (62, [some (.ref 0), some (.int a1), some (.int a2), some (.int a3), some (.int a4), some (.int a5), some (.ref 108), some (.ref 114)], [.int (D 114 2), .int (D 108 2)], D, E)) rfl ?_
                    refine gv_b hq rfl h 68 65 rfl rfl rfl (fun h => ?_) (fun h => ?_)
                    · refine gv_n hq 3 (S' := (73, [some (.ref 0), some (.int a1), some (.int a2), some (.int a3), some (.int a4), some (.int a5), some (.ref 108), some (.ref 114)], [.int a5, .int a2, .ref 108], D, E)) rfl ?_
                      refine gv_d hq rfl rfl rfl rfl rfl ((t_Row_holds_108 X d D E _ _ _ rfl)) (S' := (76, [some (.ref 0), some (.int a1), some (.int a2), some (.int a3), some (.int a4), some (.int a5), some (.ref 108), some (.ref 114)], [.int (g_Row_holds_108 D a2 a5)], D, E)) rfl ?_
                      refine gv_b hq rfl h 91 79 rfl rfl rfl (fun h => ?_) (fun h => ?_)
                      · refine gv_n hq 1 (S' := (93, [some (.ref 0), some (.int a1), some (.int a2), some (.int a3), some (.int a4), some (.int a5), some (.ref 108), some (.ref 114)], [.int (-7 : Int32)], D, E)) rfl ?_
                        cases h
                        exact ev_ret hq rfl rfl ⟨rfl, rfl, rfl⟩
                      · refine gv_n hq 3 (S' := (85, [some (.ref 0), some (.int a1), some (.int a2), some (.int a3), some (.int a4), some (.int a5), some (.ref 108), some (.ref 114)], [.int a5, .int a4, .ref 114], D, E)) rfl ?_
                        refine gv_d hq rfl rfl rfl rfl rfl ((t_Row_holds_114 X d D E _ _ _ rfl)) (S' := (88, [some (.ref 0), some (.int a1), some (.int a2), some (.int a3), some (.int a4), some (.int a5), some (.ref 108), some (.ref 114)], [.int (g_Row_holds_114 D a4 a5)], D, E)) rfl ?_
                        refine gv_b hq rfl h 91 94 rfl rfl rfl (fun h => ?_) (fun h => ?_)
                        · refine gv_n hq 1 (S' := (93, [some (.ref 0), some (.int a1), some (.int a2), some (.int a3), some (.int a4), some (.int a5), some (.ref 108), some (.ref 114)], [.int (-7 : Int32)], D, E)) rfl ?_
                          cases h
                          exact ev_ret hq rfl rfl ⟨rfl, rfl, rfl⟩
                        · refine gv_n hq 7 (S' := (109, [some (.ref 0), some (.int a1), some (.int a2), some (.int a3), some (.int a4), some (.int a5), some (.ref 108), some (.ref 114)], [.int a5, .int a4, .ref 115, .int a2, .ref 109], D, E)) rfl ?_
                          refine gv_cp hq rfl h (S' := (112, [some (.ref 0), some (.int a1), some (.int a2), some (.int a3), some (.int a4), some (.int a5), some (.ref 108), some (.ref 114)], [], D, (cE E 109 115 (a2).toNatClampNeg (a4).toNatClampNeg (a5).toNatClampNeg))) rfl rfl (fun h => ?_)
                          refine gv_n hq 1 (S' := (113, [some (.ref 0), some (.int a1), some (.int a2), some (.int a3), some (.int a4), some (.int a5), some (.ref 108), some (.ref 114)], [.int (nI 0)], D, (cE E 109 115 (a2).toNatClampNeg (a4).toNatClampNeg (a5).toNatClampNeg))) rfl ?_
                          cases h
                          exact ev_ret hq rfl rfl ⟨rfl, rfl, rfl⟩
                    · refine gv_n hq 1 (S' := (67, [some (.ref 0), some (.int a1), some (.int a2), some (.int a3), some (.int a4), some (.int a5), some (.ref 108), some (.ref 114)], [.int (-8 : Int32)], D, E)) rfl ?_
                      cases h
                      exact ev_ret hq rfl rfl ⟨rfl, rfl, rfl⟩
              · cases h
      · refine gv_if h (fun c1 h => ?_) (fun c1 h => ?_)
        · refine ev_ins hq rfl (S' := (23, [some (.ref 0), some (.int a1), some (.int a2), some (.int a3), some (.int a4), some (.int a5), none, none], [.ref 110], D, E)) (gv_sw (fun z => ((22, [some (.ref 0), some (.int a1), some (.int a2), some (.int a3), some (.int a4), some (.int a5), none, none], .int z :: [.ref 62], D, E) : mx_S)) c1 rfl) ?_
          refine gv_n hq 4 (S' := (30, [some (.ref 0), some (.int a1), some (.int a2), some (.int a3), some (.int a4), some (.int a5), some (.ref 110), none], [.int a3, .ref 62], D, E)) rfl ?_
          refine gv_if h (fun c0 h => ?_) (fun c0 h => ?_)
          · refine ev_ins hq rfl (S' := (31, [some (.ref 0), some (.int a1), some (.int a2), some (.int a3), some (.int a4), some (.int a5), some (.ref 110), none], [.ref 108], D, E)) (gv_sw (fun z => ((30, [some (.ref 0), some (.int a1), some (.int a2), some (.int a3), some (.int a4), some (.int a5), some (.ref 110), none], .int z :: [.ref 62], D, E) : mx_S)) c0 rfl) ?_
            refine gv_n hq 3 (S' := (38, [some (.ref 0), some (.int a1), some (.int a2), some (.int a3), some (.int a4), some (.int a5), some (.ref 110), some (.ref 108)], [.int (D 110 1)], D, E)) rfl ?_
            refine gv_b hq rfl h 49 41 rfl rfl rfl (fun h => ?_) (fun h => ?_)
            · refine gv_n hq 1 (S' := (51, [some (.ref 0), some (.int a1), some (.int a2), some (.int a3), some (.int a4), some (.int a5), some (.ref 110), some (.ref 108)], [.int (-6 : Int32)], D, E)) rfl ?_
              cases h
              exact ev_ret hq rfl rfl ⟨rfl, rfl, rfl⟩
            · refine gv_n hq 2 (S' := (46, [some (.ref 0), some (.int a1), some (.int a2), some (.int a3), some (.int a4), some (.int a5), some (.ref 110), some (.ref 108)], [.int (D 108 1)], D, E)) rfl ?_
              refine gv_b hq rfl h 49 52 rfl rfl rfl (fun h => ?_) (fun h => ?_)
              · refine gv_n hq 1 (S' := (51, [some (.ref 0), some (.int a1), some (.int a2), some (.int a3), some (.int a4), some (.int a5), some (.ref 110), some (.ref 108)], [.int (-6 : Int32)], D, E)) rfl ?_
                cases h
                exact ev_ret hq rfl rfl ⟨rfl, rfl, rfl⟩
              · refine gv_n hq 4 (S' := (62, [some (.ref 0), some (.int a1), some (.int a2), some (.int a3), some (.int a4), some (.int a5), some (.ref 110), some (.ref 108)], [.int (D 108 2), .int (D 110 2)], D, E)) rfl ?_
                refine gv_b hq rfl h 68 65 rfl rfl rfl (fun h => ?_) (fun h => ?_)
                · refine gv_n hq 3 (S' := (73, [some (.ref 0), some (.int a1), some (.int a2), some (.int a3), some (.int a4), some (.int a5), some (.ref 110), some (.ref 108)], [.int a5, .int a2, .ref 110], D, E)) rfl ?_
                  refine gv_d hq rfl rfl rfl rfl rfl ((t_Row_holds_110 X d D E _ _ _ rfl)) (S' := (76, [some (.ref 0), some (.int a1), some (.int a2), some (.int a3), some (.int a4), some (.int a5), some (.ref 110), some (.ref 108)], [.int (g_Row_holds_110 D a2 a5)], D, E)) rfl ?_
                  refine gv_b hq rfl h 91 79 rfl rfl rfl (fun h => ?_) (fun h => ?_)
                  · refine gv_n hq 1 (S' := (93, [some (.ref 0), some (.int a1), some (.int a2), some (.int a3), some (.int a4), some (.int a5), some (.ref 110), some (.ref 108)], [.int (-7 : Int32)], D, E)) rfl ?_
                    cases h
                    exact ev_ret hq rfl rfl ⟨rfl, rfl, rfl⟩
                  · refine gv_n hq 3 (S' := (85, [some (.ref 0), some (.int a1), some (.int a2), some (.int a3), some (.int a4), some (.int a5), some (.ref 110), some (.ref 108)], [.int a5, .int a4, .ref 108], D, E)) rfl ?_
                    refine gv_d hq rfl rfl rfl rfl rfl ((t_Row_holds_108 X d D E _ _ _ rfl)) (S' := (88, [some (.ref 0), some (.int a1), some (.int a2), some (.int a3), some (.int a4), some (.int a5), some (.ref 110), some (.ref 108)], [.int (g_Row_holds_108 D a4 a5)], D, E)) rfl ?_
                    refine gv_b hq rfl h 91 94 rfl rfl rfl (fun h => ?_) (fun h => ?_)
                    · refine gv_n hq 1 (S' := (93, [some (.ref 0), some (.int a1), some (.int a2), some (.int a3), some (.int a4), some (.int a5), some (.ref 110), some (.ref 108)], [.int (-7 : Int32)], D, E)) rfl ?_
                      cases h
                      exact ev_ret hq rfl rfl ⟨rfl, rfl, rfl⟩
                    · refine gv_n hq 7 (S' := (109, [some (.ref 0), some (.int a1), some (.int a2), some (.int a3), some (.int a4), some (.int a5), some (.ref 110), some (.ref 108)], [.int a5, .int a4, .ref 109, .int a2, .ref 111], D, E)) rfl ?_
                      refine gv_cp hq rfl h (S' := (112, [some (.ref 0), some (.int a1), some (.int a2), some (.int a3), some (.int a4), some (.int a5), some (.ref 110), some (.ref 108)], [], D, (cE E 111 109 (a2).toNatClampNeg (a4).toNatClampNeg (a5).toNatClampNeg))) rfl rfl (fun h => ?_)
                      refine gv_n hq 1 (S' := (113, [some (.ref 0), some (.int a1), some (.int a2), some (.int a3), some (.int a4), some (.int a5), some (.ref 110), some (.ref 108)], [.int (nI 0)], D, (cE E 111 109 (a2).toNatClampNeg (a4).toNatClampNeg (a5).toNatClampNeg))) rfl ?_
                      cases h
                      exact ev_ret hq rfl rfl ⟨rfl, rfl, rfl⟩
                · refine gv_n hq 1 (S' := (67, [some (.ref 0), some (.int a1), some (.int a2), some (.int a3), some (.int a4), some (.int a5), some (.ref 110), some (.ref 108)], [.int (-8 : Int32)], D, E)) rfl ?_
                  cases h
                  exact ev_ret hq rfl rfl ⟨rfl, rfl, rfl⟩
          · refine gv_if h (fun c1 h => ?_) (fun c1 h => ?_)
            · refine ev_ins hq rfl (S' := (31, [some (.ref 0), some (.int a1), some (.int a2), some (.int a3), some (.int a4), some (.int a5), some (.ref 110), none], [.ref 110], D, E)) (gv_sw (fun z => ((30, [some (.ref 0), some (.int a1), some (.int a2), some (.int a3), some (.int a4), some (.int a5), some (.ref 110), none], .int z :: [.ref 62], D, E) : mx_S)) c1 rfl) ?_
              refine gv_n hq 3 (S' := (38, [some (.ref 0), some (.int a1), some (.int a2), some (.int a3), some (.int a4), some (.int a5), some (.ref 110), some (.ref 110)], [.int (D 110 1)], D, E)) rfl ?_
              refine gv_b hq rfl h 49 41 rfl rfl rfl (fun h => ?_) (fun h => ?_)
              · refine gv_n hq 1 (S' := (51, [some (.ref 0), some (.int a1), some (.int a2), some (.int a3), some (.int a4), some (.int a5), some (.ref 110), some (.ref 110)], [.int (-6 : Int32)], D, E)) rfl ?_
                cases h
                exact ev_ret hq rfl rfl ⟨rfl, rfl, rfl⟩
              · refine gv_n hq 2 (S' := (46, [some (.ref 0), some (.int a1), some (.int a2), some (.int a3), some (.int a4), some (.int a5), some (.ref 110), some (.ref 110)], [.int (D 110 1)], D, E)) rfl ?_
                refine gv_b hq rfl h 49 52 rfl rfl rfl (fun h => ?_) (fun h => ?_)
                · refine gv_n hq 1 (S' := (51, [some (.ref 0), some (.int a1), some (.int a2), some (.int a3), some (.int a4), some (.int a5), some (.ref 110), some (.ref 110)], [.int (-6 : Int32)], D, E)) rfl ?_
                  cases h
                  exact ev_ret hq rfl rfl ⟨rfl, rfl, rfl⟩
                · refine gv_n hq 4 (S' := (62, [some (.ref 0), some (.int a1), some (.int a2), some (.int a3), some (.int a4), some (.int a5), some (.ref 110), some (.ref 110)], [.int (D 110 2), .int (D 110 2)], D, E)) rfl ?_
                  refine gv_b hq rfl h 68 65 rfl rfl rfl (fun h => ?_) (fun h => ?_)
                  · refine gv_n hq 3 (S' := (73, [some (.ref 0), some (.int a1), some (.int a2), some (.int a3), some (.int a4), some (.int a5), some (.ref 110), some (.ref 110)], [.int a5, .int a2, .ref 110], D, E)) rfl ?_
                    refine gv_d hq rfl rfl rfl rfl rfl ((t_Row_holds_110 X d D E _ _ _ rfl)) (S' := (76, [some (.ref 0), some (.int a1), some (.int a2), some (.int a3), some (.int a4), some (.int a5), some (.ref 110), some (.ref 110)], [.int (g_Row_holds_110 D a2 a5)], D, E)) rfl ?_
                    refine gv_b hq rfl h 91 79 rfl rfl rfl (fun h => ?_) (fun h => ?_)
                    · refine gv_n hq 1 (S' := (93, [some (.ref 0), some (.int a1), some (.int a2), some (.int a3), some (.int a4), some (.int a5), some (.ref 110), some (.ref 110)], [.int (-7 : Int32)], D, E)) rfl ?_
                      cases h
                      exact ev_ret hq rfl rfl ⟨rfl, rfl, rfl⟩
                    · refine gv_n hq 3 (S' := (85, [some (.ref 0), some (.int a1), some (.int a2), some (.int a3), some (.int a4), some (.int a5), some (.ref 110), some (.ref 110)], [.int a5, .int a4, .ref 110], D, E)) rfl ?_
                      refine gv_d hq rfl rfl rfl rfl rfl ((t_Row_holds_110 X d D E _ _ _ rfl)) (S' := (88, [some (.ref 0), some (.int a1), some (.int a2), some (.int a3), some (.int a4), some (.int a5), some (.ref 110), some (.ref 110)], [.int (g_Row_holds_110 D a4 a5)], D, E)) rfl ?_
                      refine gv_b hq rfl h 91 94 rfl rfl rfl (fun h => ?_) (fun h => ?_)
                      · refine gv_n hq 1 (S' := (93, [some (.ref 0), some (.int a1), some (.int a2), some (.int a3), some (.int a4), some (.int a5), some (.ref 110), some (.ref 110)], [.int (-7 : Int32)], D, E)) rfl ?_
                        cases h
                        exact ev_ret hq rfl rfl ⟨rfl, rfl, rfl⟩
                      · refine gv_n hq 7 (S' := (109, [some (.ref 0), some (.int a1), some (.int a2), some (.int a3), some (.int a4), some (.int a5), some (.ref 110), some (.ref 110)], [.int a5, .int a4, .ref 111, .int a2, .ref 111], D, E)) rfl ?_
                        refine gv_cp hq rfl h (S' := (112, [some (.ref 0), some (.int a1), some (.int a2), some (.int a3), some (.int a4), some (.int a5), some (.ref 110), some (.ref 110)], [], D, (cE E 111 111 (a2).toNatClampNeg (a4).toNatClampNeg (a5).toNatClampNeg))) rfl rfl (fun h => ?_)
                        refine gv_n hq 1 (S' := (113, [some (.ref 0), some (.int a1), some (.int a2), some (.int a3), some (.int a4), some (.int a5), some (.ref 110), some (.ref 110)], [.int (nI 0)], D, (cE E 111 111 (a2).toNatClampNeg (a4).toNatClampNeg (a5).toNatClampNeg))) rfl ?_
                        cases h
                        exact ev_ret hq rfl rfl ⟨rfl, rfl, rfl⟩
                  · refine gv_n hq 1 (S' := (67, [some (.ref 0), some (.int a1), some (.int a2), some (.int a3), some (.int a4), some (.int a5), some (.ref 110), some (.ref 110)], [.int (-8 : Int32)], D, E)) rfl ?_
                    cases h
                    exact ev_ret hq rfl rfl ⟨rfl, rfl, rfl⟩
            · refine gv_if h (fun c2 h => ?_) (fun c2 h => ?_)
              · refine ev_ins hq rfl (S' := (31, [some (.ref 0), some (.int a1), some (.int a2), some (.int a3), some (.int a4), some (.int a5), some (.ref 110), none], [.ref 112], D, E)) (gv_sw (fun z => ((30, [some (.ref 0), some (.int a1), some (.int a2), some (.int a3), some (.int a4), some (.int a5), some (.ref 110), none], .int z :: [.ref 62], D, E) : mx_S)) c2 rfl) ?_
                refine gv_n hq 3 (S' := (38, [some (.ref 0), some (.int a1), some (.int a2), some (.int a3), some (.int a4), some (.int a5), some (.ref 110), some (.ref 112)], [.int (D 110 1)], D, E)) rfl ?_
                refine gv_b hq rfl h 49 41 rfl rfl rfl (fun h => ?_) (fun h => ?_)
                · refine gv_n hq 1 (S' := (51, [some (.ref 0), some (.int a1), some (.int a2), some (.int a3), some (.int a4), some (.int a5), some (.ref 110), some (.ref 112)], [.int (-6 : Int32)], D, E)) rfl ?_
                  cases h
                  exact ev_ret hq rfl rfl ⟨rfl, rfl, rfl⟩
                · refine gv_n hq 2 (S' := (46, [some (.ref 0), some (.int a1), some (.int a2), some (.int a3), some (.int a4), some (.int a5), some (.ref 110), some (.ref 112)], [.int (D 112 1)], D, E)) rfl ?_
                  refine gv_b hq rfl h 49 52 rfl rfl rfl (fun h => ?_) (fun h => ?_)
                  · refine gv_n hq 1 (S' := (51, [some (.ref 0), some (.int a1), some (.int a2), some (.int a3), some (.int a4), some (.int a5), some (.ref 110), some (.ref 112)], [.int (-6 : Int32)], D, E)) rfl ?_
                    cases h
                    exact ev_ret hq rfl rfl ⟨rfl, rfl, rfl⟩
                  · refine gv_n hq 4 (S' := (62, [some (.ref 0), some (.int a1), some (.int a2), some (.int a3), some (.int a4), some (.int a5), some (.ref 110), some (.ref 112)], [.int (D 112 2), .int (D 110 2)], D, E)) rfl ?_
                    refine gv_b hq rfl h 68 65 rfl rfl rfl (fun h => ?_) (fun h => ?_)
                    · refine gv_n hq 3 (S' := (73, [some (.ref 0), some (.int a1), some (.int a2), some (.int a3), some (.int a4), some (.int a5), some (.ref 110), some (.ref 112)], [.int a5, .int a2, .ref 110], D, E)) rfl ?_
                      refine gv_d hq rfl rfl rfl rfl rfl ((t_Row_holds_110 X d D E _ _ _ rfl)) (S' := (76, [some (.ref 0), some (.int a1), some (.int a2), some (.int a3), some (.int a4), some (.int a5), some (.ref 110), some (.ref 112)], [.int (g_Row_holds_110 D a2 a5)], D, E)) rfl ?_
                      refine gv_b hq rfl h 91 79 rfl rfl rfl (fun h => ?_) (fun h => ?_)
                      · refine gv_n hq 1 (S' := (93, [some (.ref 0), some (.int a1), some (.int a2), some (.int a3), some (.int a4), some (.int a5), some (.ref 110), some (.ref 112)], [.int (-7 : Int32)], D, E)) rfl ?_
                        cases h
                        exact ev_ret hq rfl rfl ⟨rfl, rfl, rfl⟩
                      · refine gv_n hq 3 (S' := (85, [some (.ref 0), some (.int a1), some (.int a2), some (.int a3), some (.int a4), some (.int a5), some (.ref 110), some (.ref 112)], [.int a5, .int a4, .ref 112], D, E)) rfl ?_
                        refine gv_d hq rfl rfl rfl rfl rfl ((t_Row_holds_112 X d D E _ _ _ rfl)) (S' := (88, [some (.ref 0), some (.int a1), some (.int a2), some (.int a3), some (.int a4), some (.int a5), some (.ref 110), some (.ref 112)], [.int (g_Row_holds_112 D a4 a5)], D, E)) rfl ?_
                        refine gv_b hq rfl h 91 94 rfl rfl rfl (fun h => ?_) (fun h => ?_)
                        · refine gv_n hq 1 (S' := (93, [some (.ref 0), some (.int a1), some (.int a2), some (.int a3), some (.int a4), some (.int a5), some (.ref 110), some (.ref 112)], [.int (-7 : Int32)], D, E)) rfl ?_
                          cases h
                          exact ev_ret hq rfl rfl ⟨rfl, rfl, rfl⟩
                        · refine gv_n hq 7 (S' := (109, [some (.ref 0), some (.int a1), some (.int a2), some (.int a3), some (.int a4), some (.int a5), some (.ref 110), some (.ref 112)], [.int a5, .int a4, .ref 113, .int a2, .ref 111], D, E)) rfl ?_
                          refine gv_cp hq rfl h (S' := (112, [some (.ref 0), some (.int a1), some (.int a2), some (.int a3), some (.int a4), some (.int a5), some (.ref 110), some (.ref 112)], [], D, (cE E 111 113 (a2).toNatClampNeg (a4).toNatClampNeg (a5).toNatClampNeg))) rfl rfl (fun h => ?_)
                          refine gv_n hq 1 (S' := (113, [some (.ref 0), some (.int a1), some (.int a2), some (.int a3), some (.int a4), some (.int a5), some (.ref 110), some (.ref 112)], [.int (nI 0)], D, (cE E 111 113 (a2).toNatClampNeg (a4).toNatClampNeg (a5).toNatClampNeg))) rfl ?_
                          cases h
                          exact ev_ret hq rfl rfl ⟨rfl, rfl, rfl⟩
                    · refine gv_n hq 1 (S' := (67, [some (.ref 0), some (.int a1), some (.int a2), some (.int a3), some (.int a4), some (.int a5), some (.ref 110), some (.ref 112)], [.int (-8 : Int32)], D, E)) rfl ?_
                      cases h
                      exact ev_ret hq rfl rfl ⟨rfl, rfl, rfl⟩
              · refine gv_if h (fun c3 h => ?_) (fun c3 h => ?_)
                · refine ev_ins hq rfl (S' := (31, [some (.ref 0), some (.int a1), some (.int a2), some (.int a3), some (.int a4), some (.int a5), some (.ref 110), none], [.ref 114], D, E)) (gv_sw (fun z => ((30, [some (.ref 0), some (.int a1), some (.int a2), some (.int a3), some (.int a4), some (.int a5), some (.ref 110), none], .int z :: [.ref 62], D, E) : mx_S)) c3 rfl) ?_
                  refine gv_n hq 3 (S' := (38, [some (.ref 0), some (.int a1), some (.int a2), some (.int a3), some (.int a4), some (.int a5), some (.ref 110), some (.ref 114)], [.int (D 110 1)], D, E)) rfl ?_
                  refine gv_b hq rfl h 49 41 rfl rfl rfl (fun h => ?_) (fun h => ?_)
                  · refine gv_n hq 1 (S' := (51, [some (.ref 0), some (.int a1), some (.int a2), some (.int a3), some (.int a4), some (.int a5), some (.ref 110), some (.ref 114)], [.int (-6 : Int32)], D, E)) rfl ?_
                    cases h
                    exact ev_ret hq rfl rfl ⟨rfl, rfl, rfl⟩
                  · refine gv_n hq 2 (S' := (46, [some (.ref 0), some (.int a1), some (.int a2), some (.int a3), some (.int a4), some (.int a5), some (.ref 110), some (.ref 114)], [.int (D 114 1)], D, E)) rfl ?_
                    refine gv_b hq rfl h 49 52 rfl rfl rfl (fun h => ?_) (fun h => ?_)
                    · refine gv_n hq 1 (S' := (51, [some (.ref 0), some (.int a1), some (.int a2), some (.int a3), some (.int a4), some (.int a5), some (.ref 110), some (.ref 114)], [.int (-6 : Int32)], D, E)) rfl ?_
                      cases h
                      exact ev_ret hq rfl rfl ⟨rfl, rfl, rfl⟩
                    · refine gv_n hq 4 (S' := (62, [some (.ref 0), some (.int a1), some (.int a2), some (.int a3), some (.int a4), some (.int a5), some (.ref 110), some (.ref 114)], [.int (D 114 2), .int (D 110 2)], D, E)) rfl ?_
                      refine gv_b hq rfl h 68 65 rfl rfl rfl (fun h => ?_) (fun h => ?_)
                      · refine gv_n hq 3 (S' := (73, [some (.ref 0), some (.int a1), some (.int a2), some (.int a3), some (.int a4), some (.int a5), some (.ref 110), some (.ref 114)], [.int a5, .int a2, .ref 110], D, E)) rfl ?_
                        refine gv_d hq rfl rfl rfl rfl rfl ((t_Row_holds_110 X d D E _ _ _ rfl)) (S' := (76, [some (.ref 0), some (.int a1), some (.int a2), some (.int a3), some (.int a4), some (.int a5), some (.ref 110), some (.ref 114)], [.int (g_Row_holds_110 D a2 a5)], D, E)) rfl ?_
                        refine gv_b hq rfl h 91 79 rfl rfl rfl (fun h => ?_) (fun h => ?_)
                        · refine gv_n hq 1 (S' := (93, [some (.ref 0), some (.int a1), some (.int a2), some (.int a3), some (.int a4), some (.int a5), some (.ref 110), some (.ref 114)], [.int (-7 : Int32)], D, E)) rfl ?_
                          cases h
                          exact ev_ret hq rfl rfl ⟨rfl, rfl, rfl⟩
                        · refine gv_n hq 3 (S' := (85, [some (.ref 0), some (.int a1), some (.int a2), some (.int a3), some (.int a4), some (.int a5), some (.ref 110), some (.ref 114)], [.int a5, .int a4, .ref 114], D, E)) rfl ?_
                          refine gv_d hq rfl rfl rfl rfl rfl ((t_Row_holds_114 X d D E _ _ _ rfl)) (S' := (88, [some (.ref 0), some (.int a1), some (.int a2), some (.int a3), some (.int a4), some (.int a5), some (.ref 110), some (.ref 114)], [.int (g_Row_holds_114 D a4 a5)], D, E)) rfl ?_
                          refine gv_b hq rfl h 91 94 rfl rfl rfl (fun h => ?_) (fun h => ?_)
                          · refine gv_n hq 1 (S' := (93, [some (.ref 0), some (.int a1), some (.int a2), some (.int a3), some (.int a4), some (.int a5), some (.ref 110), some (.ref 114)], [.int (-7 : Int32)], D, E)) rfl ?_
                            cases h
                            exact ev_ret hq rfl rfl ⟨rfl, rfl, rfl⟩
                          · refine gv_n hq 7 (S' := (109, [some (.ref 0), some (.int a1), some (.int a2), some (.int a3), some (.int a4), some (.int a5), some (.ref 110), some (.ref 114)], [.int a5, .int a4, .ref 115, .int a2, .ref 111], D, E)) rfl ?_
                            refine gv_cp hq rfl h (S' := (112, [some (.ref 0), some (.int a1), some (.int a2), some (.int a3), some (.int a4), some (.int a5), some (.ref 110), some (.ref 114)], [], D, (cE E 111 115 (a2).toNatClampNeg (a4).toNatClampNeg (a5).toNatClampNeg))) rfl rfl (fun h => ?_)
                            refine gv_n hq 1 (S' := (113, [some (.ref 0), some (.int a1), some (.int a2), some (.int a3), some (.int a4), some (.int a5), some (.ref 110), some (.ref 114)], [.int (nI 0)], D, (cE E 111 115 (a2).toNatClampNeg (a4).toNatClampNeg (a5).toNatClampNeg))) rfl ?_
                            cases h
                            exact ev_ret hq rfl rfl ⟨rfl, rfl, rfl⟩
                      · refine gv_n hq 1 (S' := (67, [some (.ref 0), some (.int a1), some (.int a2), some (.int a3), some (.int a4), some (.int a5), some (.ref 110), some (.ref 114)], [.int (-8 : Int32)], D, E)) rfl ?_
                        cases h
                        exact ev_ret hq rfl rfl ⟨rfl, rfl, rfl⟩
                · cases h
        · refine gv_if h (fun c2 h => ?_) (fun c2 h => ?_)
          · refine ev_ins hq rfl (S' := (23, [some (.ref 0), some (.int a1), some (.int a2), some (.int a3), some (.int a4), some (.int a5), none, none], [.ref 112], D, E)) (gv_sw (fun z => ((22, [some (.ref 0), some (.int a1), some (.int a2), some (.int a3), some (.int a4), some (.int a5), none, none], .int z :: [.ref 62], D, E) : mx_S)) c2 rfl) ?_
            refine gv_n hq 4 (S' := (30, [some (.ref 0), some (.int a1), some (.int a2), some (.int a3), some (.int a4), some (.int a5), some (.ref 112), none], [.int a3, .ref 62], D, E)) rfl ?_
            refine gv_if h (fun c0 h => ?_) (fun c0 h => ?_)
            · refine ev_ins hq rfl (S' := (31, [some (.ref 0), some (.int a1), some (.int a2), some (.int a3), some (.int a4), some (.int a5), some (.ref 112), none], [.ref 108], D, E)) (gv_sw (fun z => ((30, [some (.ref 0), some (.int a1), some (.int a2), some (.int a3), some (.int a4), some (.int a5), some (.ref 112), none], .int z :: [.ref 62], D, E) : mx_S)) c0 rfl) ?_
              refine gv_n hq 3 (S' := (38, [some (.ref 0), some (.int a1), some (.int a2), some (.int a3), some (.int a4), some (.int a5), some (.ref 112), some (.ref 108)], [.int (D 112 1)], D, E)) rfl ?_
              refine gv_b hq rfl h 49 41 rfl rfl rfl (fun h => ?_) (fun h => ?_)
              · refine gv_n hq 1 (S' := (51, [some (.ref 0), some (.int a1), some (.int a2), some (.int a3), some (.int a4), some (.int a5), some (.ref 112), some (.ref 108)], [.int (-6 : Int32)], D, E)) rfl ?_
                cases h
                exact ev_ret hq rfl rfl ⟨rfl, rfl, rfl⟩
              · refine gv_n hq 2 (S' := (46, [some (.ref 0), some (.int a1), some (.int a2), some (.int a3), some (.int a4), some (.int a5), some (.ref 112), some (.ref 108)], [.int (D 108 1)], D, E)) rfl ?_
                refine gv_b hq rfl h 49 52 rfl rfl rfl (fun h => ?_) (fun h => ?_)
                · refine gv_n hq 1 (S' := (51, [some (.ref 0), some (.int a1), some (.int a2), some (.int a3), some (.int a4), some (.int a5), some (.ref 112), some (.ref 108)], [.int (-6 : Int32)], D, E)) rfl ?_
                  cases h
                  exact ev_ret hq rfl rfl ⟨rfl, rfl, rfl⟩
                · refine gv_n hq 4 (S' := (62, [some (.ref 0), some (.int a1), some (.int a2), some (.int a3), some (.int a4), some (.int a5), some (.ref 112), some (.ref 108)], [.int (D 108 2), .int (D 112 2)], D, E)) rfl ?_
                  refine gv_b hq rfl h 68 65 rfl rfl rfl (fun h => ?_) (fun h => ?_)
                  · refine gv_n hq 3 (S' := (73, [some (.ref 0), some (.int a1), some (.int a2), some (.int a3), some (.int a4), some (.int a5), some (.ref 112), some (.ref 108)], [.int a5, .int a2, .ref 112], D, E)) rfl ?_
                    refine gv_d hq rfl rfl rfl rfl rfl ((t_Row_holds_112 X d D E _ _ _ rfl)) (S' := (76, [some (.ref 0), some (.int a1), some (.int a2), some (.int a3), some (.int a4), some (.int a5), some (.ref 112), some (.ref 108)], [.int (g_Row_holds_112 D a2 a5)], D, E)) rfl ?_
                    refine gv_b hq rfl h 91 79 rfl rfl rfl (fun h => ?_) (fun h => ?_)
                    · refine gv_n hq 1 (S' := (93, [some (.ref 0), some (.int a1), some (.int a2), some (.int a3), some (.int a4), some (.int a5), some (.ref 112), some (.ref 108)], [.int (-7 : Int32)], D, E)) rfl ?_
                      cases h
                      exact ev_ret hq rfl rfl ⟨rfl, rfl, rfl⟩
                    · refine gv_n hq 3 (S' := (85, [some (.ref 0), some (.int a1), some (.int a2), some (.int a3), some (.int a4), some (.int a5), some (.ref 112), some (.ref 108)], [.int a5, .int a4, .ref 108], D, E)) rfl ?_
                      refine gv_d hq rfl rfl rfl rfl rfl ((t_Row_holds_108 X d D E _ _ _ rfl)) (S' := (88, [some (.ref 0), some (.int a1), some (.int a2), some (.int a3), some (.int a4), some (.int a5), some (.ref 112), some (.ref 108)], [.int (g_Row_holds_108 D a4 a5)], D, E)) rfl ?_
                      refine gv_b hq rfl h 91 94 rfl rfl rfl (fun h => ?_) (fun h => ?_)
                      · refine gv_n hq 1 (S' := (93, [some (.ref 0), some (.int a1), some (.int a2), some (.int a3), some (.int a4), some (.int a5), some (.ref 112), some (.ref 108)], [.int (-7 : Int32)], D, E)) rfl ?_
                        cases h
                        exact ev_ret hq rfl rfl ⟨rfl, rfl, rfl⟩
                      · refine gv_n hq 7 (S' := (109, [some (.ref 0), some (.int a1), some (.int a2), some (.int a3), some (.int a4), some (.int a5), some (.ref 112), some (.ref 108)], [.int a5, .int a4, .ref 109, .int a2, .ref 113], D, E)) rfl ?_
                        refine gv_cp hq rfl h (S' := (112, [some (.ref 0), some (.int a1), some (.int a2), some (.int a3), some (.int a4), some (.int a5), some (.ref 112), some (.ref 108)], [], D, (cE E 113 109 (a2).toNatClampNeg (a4).toNatClampNeg (a5).toNatClampNeg))) rfl rfl (fun h => ?_)
                        refine gv_n hq 1 (S' := (113, [some (.ref 0), some (.int a1), some (.int a2), some (.int a3), some (.int a4), some (.int a5), some (.ref 112), some (.ref 108)], [.int (nI 0)], D, (cE E 113 109 (a2).toNatClampNeg (a4).toNatClampNeg (a5).toNatClampNeg))) rfl ?_
                        cases h
                        exact ev_ret hq rfl rfl ⟨rfl, rfl, rfl⟩
                  · refine gv_n hq 1 (S' := (67, [some (.ref 0), some (.int a1), some (.int a2), some (.int a3), some (.int a4), some (.int a5), some (.ref 112), some (.ref 108)], [.int (-8 : Int32)], D, E)) rfl ?_
                    cases h
                    exact ev_ret hq rfl rfl ⟨rfl, rfl, rfl⟩
            · refine gv_if h (fun c1 h => ?_) (fun c1 h => ?_)
              · refine ev_ins hq rfl (S' := (31, [some (.ref 0), some (.int a1), some (.int a2), some (.int a3), some (.int a4), some (.int a5), some (.ref 112), none], [.ref 110], D, E)) (gv_sw (fun z => ((30, [some (.ref 0), some (.int a1), some (.int a2), some (.int a3), some (.int a4), some (.int a5), some (.ref 112), none], .int z :: [.ref 62], D, E) : mx_S)) c1 rfl) ?_
                refine gv_n hq 3 (S' := (38, [some (.ref 0), some (.int a1), some (.int a2), some (.int a3), some (.int a4), some (.int a5), some (.ref 112), some (.ref 110)], [.int (D 112 1)], D, E)) rfl ?_
                refine gv_b hq rfl h 49 41 rfl rfl rfl (fun h => ?_) (fun h => ?_)
                · refine gv_n hq 1 (S' := (51, [some (.ref 0), some (.int a1), some (.int a2), some (.int a3), some (.int a4), some (.int a5), some (.ref 112), some (.ref 110)], [.int (-6 : Int32)], D, E)) rfl ?_
                  cases h
                  exact ev_ret hq rfl rfl ⟨rfl, rfl, rfl⟩
                · refine gv_n hq 2 (S' := (46, [some (.ref 0), some (.int a1), some (.int a2), some (.int a3), some (.int a4), some (.int a5), some (.ref 112), some (.ref 110)], [.int (D 110 1)], D, E)) rfl ?_
                  refine gv_b hq rfl h 49 52 rfl rfl rfl (fun h => ?_) (fun h => ?_)
                  · refine gv_n hq 1 (S' := (51, [some (.ref 0), some (.int a1), some (.int a2), some (.int a3), some (.int a4), some (.int a5), some (.ref 112), some (.ref 110)], [.int (-6 : Int32)], D, E)) rfl ?_
                    cases h
                    exact ev_ret hq rfl rfl ⟨rfl, rfl, rfl⟩
                  · refine gv_n hq 4 (S' := (62, [some (.ref 0), some (.int a1), some (.int a2), some (.int a3), some (.int a4), some (.int a5), some (.ref 112), some (.ref 110)], [.int (D 110 2), .int (D 112 2)], D, E)) rfl ?_
                    refine gv_b hq rfl h 68 65 rfl rfl rfl (fun h => ?_) (fun h => ?_)
                    · refine gv_n hq 3 (S' := (73, [some (.ref 0), some (.int a1), some (.int a2), some (.int a3), some (.int a4), some (.int a5), some (.ref 112), some (.ref 110)], [.int a5, .int a2, .ref 112], D, E)) rfl ?_
                      refine gv_d hq rfl rfl rfl rfl rfl ((t_Row_holds_112 X d D E _ _ _ rfl)) (S' := (76, [some (.ref 0), some (.int a1), some (.int a2), some (.int a3), some (.int a4), some (.int a5), some (.ref 112), some (.ref 110)], [.int (g_Row_holds_112 D a2 a5)], D, E)) rfl ?_
                      refine gv_b hq rfl h 91 79 rfl rfl rfl (fun h => ?_) (fun h => ?_)
                      · refine gv_n hq 1 (S' := (93, [some (.ref 0), some (.int a1), some (.int a2), some (.int a3), some (.int a4), some (.int a5), some (.ref 112), some (.ref 110)], [.int (-7 : Int32)], D, E)) rfl ?_
                        cases h
                        exact ev_ret hq rfl rfl ⟨rfl, rfl, rfl⟩
                      · refine gv_n hq 3 (S' := (85, [some (.ref 0), some (.int a1), some (.int a2), some (.int a3), some (.int a4), some (.int a5), some (.ref 112), some (.ref 110)], [.int a5, .int a4, .ref 110], D, E)) rfl ?_
                        refine gv_d hq rfl rfl rfl rfl rfl ((t_Row_holds_110 X d D E _ _ _ rfl)) (S' := (88, [some (.ref 0), some (.int a1), some (.int a2), some (.int a3), some (.int a4), some (.int a5), some (.ref 112), some (.ref 110)], [.int (g_Row_holds_110 D a4 a5)], D, E)) rfl ?_
                        refine gv_b hq rfl h 91 94 rfl rfl rfl (fun h => ?_) (fun h => ?_)
                        · refine gv_n hq 1 (S' := (93, [some (.ref 0), some (.int a1), some (.int a2), some (.int a3), some (.int a4), some (.int a5), some (.ref 112), some (.ref 110)], [.int (-7 : Int32)], D, E)) rfl ?_
                          cases h
                          exact ev_ret hq rfl rfl ⟨rfl, rfl, rfl⟩
                        · refine gv_n hq 7 (S' := (109, [some (.ref 0), some (.int a1), some (.int a2), some (.int a3), some (.int a4), some (.int a5), some (.ref 112), some (.ref 110)], [.int a5, .int a4, .ref 111, .int a2, .ref 113], D, E)) rfl ?_
                          refine gv_cp hq rfl h (S' := (112, [some (.ref 0), some (.int a1), some (.int a2), some (.int a3), some (.int a4), some (.int a5), some (.ref 112), some (.ref 110)], [], D, (cE E 113 111 (a2).toNatClampNeg (a4).toNatClampNeg (a5).toNatClampNeg))) rfl rfl (fun h => ?_)
                          refine gv_n hq 1 (S' := (113, [some (.ref 0), some (.int a1), some (.int a2), some (.int a3), some (.int a4), some (.int a5), some (.ref 112), some (.ref 110)], [.int (nI 0)], D, (cE E 113 111 (a2).toNatClampNeg (a4).toNatClampNeg (a5).toNatClampNeg))) rfl ?_
                          cases h
                          exact ev_ret hq rfl rfl ⟨rfl, rfl, rfl⟩
                    · refine gv_n hq 1 (S' := (67, [some (.ref 0), some (.int a1), some (.int a2), some (.int a3), some (.int a4), some (.int a5), some (.ref 112), some (.ref 110)], [.int (-8 : Int32)], D, E)) rfl ?_
                      cases h
                      exact ev_ret hq rfl rfl ⟨rfl, rfl, rfl⟩
              · refine gv_if h (fun c2 h => ?_) (fun c2 h => ?_)
                · refine ev_ins hq rfl (S' := (31, [some (.ref 0), some (.int a1), some (.int a2), some (.int a3), some (.int a4), some (.int a5), some (.ref 112), none], [.ref 112], D, E)) (gv_sw (fun z => ((30, [some (.ref 0), some (.int a1), some (.int a2), some (.int a3), some (.int a4), some (.int a5), some (.ref 112), none], .int z :: [.ref 62], D, E) : mx_S)) c2 rfl) ?_
                  refine gv_n hq 3 (S' := (38, [some (.ref 0), some (.int a1), some (.int a2), some (.int a3), some (.int a4), some (.int a5), some (.ref 112), some (.ref 112)], [.int (D 112 1)], D, E)) rfl ?_
                  refine gv_b hq rfl h 49 41 rfl rfl rfl (fun h => ?_) (fun h => ?_)
                  · refine gv_n hq 1 (S' := (51, [some (.ref 0), some (.int a1), some (.int a2), some (.int a3), some (.int a4), some (.int a5), some (.ref 112), some (.ref 112)], [.int (-6 : Int32)], D, E)) rfl ?_
                    cases h
                    exact ev_ret hq rfl rfl ⟨rfl, rfl, rfl⟩
                  · refine gv_n hq 2 (S' := (46, [some (.ref 0), some (.int a1), some (.int a2), some (.int a3), some (.int a4), some (.int a5), some (.ref 112), some (.ref 112)], [.int (D 112 1)], D, E)) rfl ?_
                    refine gv_b hq rfl h 49 52 rfl rfl rfl (fun h => ?_) (fun h => ?_)
                    · refine gv_n hq 1 (S' := (51, [some (.ref 0), some (.int a1), some (.int a2), some (.int a3), some (.int a4), some (.int a5), some (.ref 112), some (.ref 112)], [.int (-6 : Int32)], D, E)) rfl ?_
                      cases h
                      exact ev_ret hq rfl rfl ⟨rfl, rfl, rfl⟩
                    · refine gv_n hq 4 (S' := (62, [some (.ref 0), some (.int a1), some (.int a2), some (.int a3), some (.int a4), some (.int a5), some (.ref 112), some (.ref 112)], [.int (D 112 2), .int (D 112 2)], D, E)) rfl ?_
                      refine gv_b hq rfl h 68 65 rfl rfl rfl (fun h => ?_) (fun h => ?_)
                      · refine gv_n hq 3 (S' := (73, [some (.ref 0), some (.int a1), some (.int a2), some (.int a3), some (.int a4), some (.int a5), some (.ref 112), some (.ref 112)], [.int a5, .int a2, .ref 112], D, E)) rfl ?_
                        refine gv_d hq rfl rfl rfl rfl rfl ((t_Row_holds_112 X d D E _ _ _ rfl)) (S' := (76, [some (.ref 0), some (.int a1), some (.int a2), some (.int a3), some (.int a4), some (.int a5), some (.ref 112), some (.ref 112)], [.int (g_Row_holds_112 D a2 a5)], D, E)) rfl ?_
                        refine gv_b hq rfl h 91 79 rfl rfl rfl (fun h => ?_) (fun h => ?_)
                        · refine gv_n hq 1 (S' := (93, [some (.ref 0), some (.int a1), some (.int a2), some (.int a3), some (.int a4), some (.int a5), some (.ref 112), some (.ref 112)], [.int (-7 : Int32)], D, E)) rfl ?_
                          cases h
                          exact ev_ret hq rfl rfl ⟨rfl, rfl, rfl⟩
                        · refine gv_n hq 3 (S' := (85, [some (.ref 0), some (.int a1), some (.int a2), some (.int a3), some (.int a4), some (.int a5), some (.ref 112), some (.ref 112)], [.int a5, .int a4, .ref 112], D, E)) rfl ?_
                          refine gv_d hq rfl rfl rfl rfl rfl ((t_Row_holds_112 X d D E _ _ _ rfl)) (S' := (88, [some (.ref 0), some (.int a1), some (.int a2), some (.int a3), some (.int a4), some (.int a5), some (.ref 112), some (.ref 112)], [.int (g_Row_holds_112 D a4 a5)], D, E)) rfl ?_
                          refine gv_b hq rfl h 91 94 rfl rfl rfl (fun h => ?_) (fun h => ?_)
                          · refine gv_n hq 1 (S' := (93, [some (.ref 0), some (.int a1), some (.int a2), some (.int a3), some (.int a4), some (.int a5), some (.ref 112), some (.ref 112)], [.int (-7 : Int32)], D, E)) rfl ?_
                            cases h
                            exact ev_ret hq rfl rfl ⟨rfl, rfl, rfl⟩
                          · refine gv_n hq 7 (S' := (109, [some (.ref 0), some (.int a1), some (.int a2), some (.int a3), some (.int a4), some (.int a5), some (.ref 112), some (.ref 112)], [.int a5, .int a4, .ref 113, .int a2, .ref 113], D, E)) rfl ?_
                            refine gv_cp hq rfl h (S' := (112, [some (.ref 0), some (.int a1), some (.int a2), some (.int a3), some (.int a4), some (.int a5), some (.ref 112), some (.ref 112)], [], D, (cE E 113 113 (a2).toNatClampNeg (a4).toNatClampNeg (a5).toNatClampNeg))) rfl rfl (fun h => ?_)
                            refine gv_n hq 1 (S' := (113, [some (.ref 0), some (.int a1), some (.int a2), some (.int a3), some (.int a4), some (.int a5), some (.ref 112), some (.ref 112)], [.int (nI 0)], D, (cE E 113 113 (a2).toNatClampNeg (a4).toNatClampNeg (a5).toNatClampNeg))) rfl ?_
                            cases h
                            exact ev_ret hq rfl rfl ⟨rfl, rfl, rfl⟩
                      · refine gv_n hq 1 (S' := (67, [some (.ref 0), some (.int a1), some (.int a2), some (.int a3), some (.int a4), some (.int a5), some (.ref 112), some (.ref 112)], [.int (-8 : Int32)], D, E)) rfl ?_
                        cases h
                        exact ev_ret hq rfl rfl ⟨rfl, rfl, rfl⟩
                · refine gv_if h (fun c3 h => ?_) (fun c3 h => ?_)
                  · refine ev_ins hq rfl (S' := (31, [some (.ref 0), some (.int a1), some (.int a2), some (.int a3), some (.int a4), some (.int a5), some (.ref 112), none], [.ref 114], D, E)) (gv_sw (fun z => ((30, [some (.ref 0), some (.int a1), some (.int a2), some (.int a3), some (.int a4), some (.int a5), some (.ref 112), none], .int z :: [.ref 62], D, E) : mx_S)) c3 rfl) ?_
                    refine gv_n hq 3 (S' := (38, [some (.ref 0), some (.int a1), some (.int a2), some (.int a3), some (.int a4), some (.int a5), some (.ref 112), some (.ref 114)], [.int (D 112 1)], D, E)) rfl ?_
                    refine gv_b hq rfl h 49 41 rfl rfl rfl (fun h => ?_) (fun h => ?_)
                    · refine gv_n hq 1 (S' := (51, [some (.ref 0), some (.int a1), some (.int a2), some (.int a3), some (.int a4), some (.int a5), some (.ref 112), some (.ref 114)], [.int (-6 : Int32)], D, E)) rfl ?_
                      cases h
                      exact ev_ret hq rfl rfl ⟨rfl, rfl, rfl⟩
                    · refine gv_n hq 2 (S' := (46, [some (.ref 0), some (.int a1), some (.int a2), some (.int a3), some (.int a4), some (.int a5), some (.ref 112), some (.ref 114)], [.int (D 114 1)], D, E)) rfl ?_
                      refine gv_b hq rfl h 49 52 rfl rfl rfl (fun h => ?_) (fun h => ?_)
                      · refine gv_n hq 1 (S' := (51, [some (.ref 0), some (.int a1), some (.int a2), some (.int a3), some (.int a4), some (.int a5), some (.ref 112), some (.ref 114)], [.int (-6 : Int32)], D, E)) rfl ?_
                        cases h
                        exact ev_ret hq rfl rfl ⟨rfl, rfl, rfl⟩
                      · refine gv_n hq 4 (S' := (62, [some (.ref 0), some (.int a1), some (.int a2), some (.int a3), some (.int a4), some (.int a5), some (.ref 112), some (.ref 114)], [.int (D 114 2), .int (D 112 2)], D, E)) rfl ?_
                        refine gv_b hq rfl h 68 65 rfl rfl rfl (fun h => ?_) (fun h => ?_)
                        · refine gv_n hq 3 (S' := (73, [some (.ref 0), some (.int a1), some (.int a2), some (.int a3), some (.int a4), some (.int a5), some (.ref 112), some (.ref 114)], [.int a5, .int a2, .ref 112], D, E)) rfl ?_
                          refine gv_d hq rfl rfl rfl rfl rfl ((t_Row_holds_112 X d D E _ _ _ rfl)) (S' := (76, [some (.ref 0), some (.int a1), some (.int a2), some (.int a3), some (.int a4), some (.int a5), some (.ref 112), some (.ref 114)], [.int (g_Row_holds_112 D a2 a5)], D, E)) rfl ?_
                          refine gv_b hq rfl h 91 79 rfl rfl rfl (fun h => ?_) (fun h => ?_)
                          · refine gv_n hq 1 (S' := (93, [some (.ref 0), some (.int a1), some (.int a2), some (.int a3), some (.int a4), some (.int a5), some (.ref 112), some (.ref 114)], [.int (-7 : Int32)], D, E)) rfl ?_
                            cases h
                            exact ev_ret hq rfl rfl ⟨rfl, rfl, rfl⟩
                          · refine gv_n hq 3 (S' := (85, [some (.ref 0), some (.int a1), some (.int a2), some (.int a3), some (.int a4), some (.int a5), some (.ref 112), some (.ref 114)], [.int a5, .int a4, .ref 114], D, E)) rfl ?_
                            refine gv_d hq rfl rfl rfl rfl rfl ((t_Row_holds_114 X d D E _ _ _ rfl)) (S' := (88, [some (.ref 0), some (.int a1), some (.int a2), some (.int a3), some (.int a4), some (.int a5), some (.ref 112), some (.ref 114)], [.int (g_Row_holds_114 D a4 a5)], D, E)) rfl ?_
                            refine gv_b hq rfl h 91 94 rfl rfl rfl (fun h => ?_) (fun h => ?_)
                            · refine gv_n hq 1 (S' := (93, [some (.ref 0), some (.int a1), some (.int a2), some (.int a3), some (.int a4), some (.int a5), some (.ref 112), some (.ref 114)], [.int (-7 : Int32)], D, E)) rfl ?_
                              cases h
                              exact ev_ret hq rfl rfl ⟨rfl, rfl, rfl⟩
                            · refine gv_n hq 7 (S' := (109, [some (.ref 0), some (.int a1), some (.int a2), some (.int a3), some (.int a4), some (.int a5), some (.ref 112), some (.ref 114)], [.int a5, .int a4, .ref 115, .int a2, .ref 113], D, E)) rfl ?_
                              refine gv_cp hq rfl h (S' := (112, [some (.ref 0), some (.int a1), some (.int a2), some (.int a3), some (.int a4), some (.int a5), some (.ref 112), some (.ref 114)], [], D, (cE E 113 115 (a2).toNatClampNeg (a4).toNatClampNeg (a5).toNatClampNeg))) rfl rfl (fun h => ?_)
                              refine gv_n hq 1 (S' := (113, [some (.ref 0), some (.int a1), some (.int a2), some (.int a3), some (.int a4), some (.int a5), some (.ref 112), some (.ref 114)], [.int (nI 0)], D, (cE E 113 115 (a2).toNatClampNeg (a4).toNatClampNeg (a5).toNatClampNeg))) rfl ?_
                              cases h
                              exact ev_ret hq rfl rfl ⟨rfl, rfl, rfl⟩
                        · refine gv_n hq 1 (S' := (67, [some (.ref 0), some (.int a1), some (.int a2), some (.int a3), some (.int a4), some (.int a5), some (.ref 112), some (.ref 114)], [.int (-8 : Int32)], D, E)) rfl ?_
                          cases h
                          exact ev_ret hq rfl rfl ⟨rfl, rfl, rfl⟩
                  · cases h
          · refine gv_if h (fun c3 h => ?_) (fun c3 h => ?_)
            · refine ev_ins hq rfl (S' := (23, [some (.ref 0), some (.int a1), some (.int a2), some (.int a3), some (.int a4), some (.int a5), none, none], [.ref 114], D, E)) (gv_sw (fun z => ((22, [some (.ref 0), some (.int a1), some (.int a2), some (.int a3), some (.int a4), some (.int a5), none, none], .int z :: [.ref 62], D, E) : mx_S)) c3 rfl) ?_
              refine gv_n hq 4 (S' := (30, [some (.ref 0), some (.int a1), some (.int a2), some (.int a3), some (.int a4), some (.int a5), some (.ref 114), none], [.int a3, .ref 62], D, E)) rfl ?_
              refine gv_if h (fun c0 h => ?_) (fun c0 h => ?_)
              · refine ev_ins hq rfl (S' := (31, [some (.ref 0), some (.int a1), some (.int a2), some (.int a3), some (.int a4), some (.int a5), some (.ref 114), none], [.ref 108], D, E)) (gv_sw (fun z => ((30, [some (.ref 0), some (.int a1), some (.int a2), some (.int a3), some (.int a4), some (.int a5), some (.ref 114), none], .int z :: [.ref 62], D, E) : mx_S)) c0 rfl) ?_
                refine gv_n hq 3 (S' := (38, [some (.ref 0), some (.int a1), some (.int a2), some (.int a3), some (.int a4), some (.int a5), some (.ref 114), some (.ref 108)], [.int (D 114 1)], D, E)) rfl ?_
                refine gv_b hq rfl h 49 41 rfl rfl rfl (fun h => ?_) (fun h => ?_)
                · refine gv_n hq 1 (S' := (51, [some (.ref 0), some (.int a1), some (.int a2), some (.int a3), some (.int a4), some (.int a5), some (.ref 114), some (.ref 108)], [.int (-6 : Int32)], D, E)) rfl ?_
                  cases h
                  exact ev_ret hq rfl rfl ⟨rfl, rfl, rfl⟩
                · refine gv_n hq 2 (S' := (46, [some (.ref 0), some (.int a1), some (.int a2), some (.int a3), some (.int a4), some (.int a5), some (.ref 114), some (.ref 108)], [.int (D 108 1)], D, E)) rfl ?_
                  refine gv_b hq rfl h 49 52 rfl rfl rfl (fun h => ?_) (fun h => ?_)
                  · refine gv_n hq 1 (S' := (51, [some (.ref 0), some (.int a1), some (.int a2), some (.int a3), some (.int a4), some (.int a5), some (.ref 114), some (.ref 108)], [.int (-6 : Int32)], D, E)) rfl ?_
                    cases h
                    exact ev_ret hq rfl rfl ⟨rfl, rfl, rfl⟩
                  · refine gv_n hq 4 (S' := (62, [some (.ref 0), some (.int a1), some (.int a2), some (.int a3), some (.int a4), some (.int a5), some (.ref 114), some (.ref 108)], [.int (D 108 2), .int (D 114 2)], D, E)) rfl ?_
                    refine gv_b hq rfl h 68 65 rfl rfl rfl (fun h => ?_) (fun h => ?_)
                    · refine gv_n hq 3 (S' := (73, [some (.ref 0), some (.int a1), some (.int a2), some (.int a3), some (.int a4), some (.int a5), some (.ref 114), some (.ref 108)], [.int a5, .int a2, .ref 114], D, E)) rfl ?_
                      refine gv_d hq rfl rfl rfl rfl rfl ((t_Row_holds_114 X d D E _ _ _ rfl)) (S' := (76, [some (.ref 0), some (.int a1), some (.int a2), some (.int a3), some (.int a4), some (.int a5), some (.ref 114), some (.ref 108)], [.int (g_Row_holds_114 D a2 a5)], D, E)) rfl ?_
                      refine gv_b hq rfl h 91 79 rfl rfl rfl (fun h => ?_) (fun h => ?_)
                      · refine gv_n hq 1 (S' := (93, [some (.ref 0), some (.int a1), some (.int a2), some (.int a3), some (.int a4), some (.int a5), some (.ref 114), some (.ref 108)], [.int (-7 : Int32)], D, E)) rfl ?_
                        cases h
                        exact ev_ret hq rfl rfl ⟨rfl, rfl, rfl⟩
                      · refine gv_n hq 3 (S' := (85, [some (.ref 0), some (.int a1), some (.int a2), some (.int a3), some (.int a4), some (.int a5), some (.ref 114), some (.ref 108)], [.int a5, .int a4, .ref 108], D, E)) rfl ?_
                        refine gv_d hq rfl rfl rfl rfl rfl ((t_Row_holds_108 X d D E _ _ _ rfl)) (S' := (88, [some (.ref 0), some (.int a1), some (.int a2), some (.int a3), some (.int a4), some (.int a5), some (.ref 114), some (.ref 108)], [.int (g_Row_holds_108 D a4 a5)], D, E)) rfl ?_
                        refine gv_b hq rfl h 91 94 rfl rfl rfl (fun h => ?_) (fun h => ?_)
                        · refine gv_n hq 1 (S' := (93, [some (.ref 0), some (.int a1), some (.int a2), some (.int a3), some (.int a4), some (.int a5), some (.ref 114), some (.ref 108)], [.int (-7 : Int32)], D, E)) rfl ?_
                          cases h
                          exact ev_ret hq rfl rfl ⟨rfl, rfl, rfl⟩
                        · refine gv_n hq 7 (S' := (109, [some (.ref 0), some (.int a1), some (.int a2), some (.int a3), some (.int a4), some (.int a5), some (.ref 114), some (.ref 108)], [.int a5, .int a4, .ref 109, .int a2, .ref 115], D, E)) rfl ?_
                          refine gv_cp hq rfl h (S' := (112, [some (.ref 0), some (.int a1), some (.int a2), some (.int a3), some (.int a4), some (.int a5), some (.ref 114), some (.ref 108)], [], D, (cE E 115 109 (a2).toNatClampNeg (a4).toNatClampNeg (a5).toNatClampNeg))) rfl rfl (fun h => ?_)
                          refine gv_n hq 1 (S' := (113, [some (.ref 0), some (.int a1), some (.int a2), some (.int a3), some (.int a4), some (.int a5), some (.ref 114), some (.ref 108)], [.int (nI 0)], D, (cE E 115 109 (a2).toNatClampNeg (a4).toNatClampNeg (a5).toNatClampNeg))) rfl ?_
                          cases h
                          exact ev_ret hq rfl rfl ⟨rfl, rfl, rfl⟩
                    · refine gv_n hq 1 (S' := (67, [some (.ref 0), some (.int a1), some (.int a2), some (.int a3), some (.int a4), some (.int a5), some (.ref 114), some (.ref 108)], [.int (-8 : Int32)], D, E)) rfl ?_
                      cases h
                      exact ev_ret hq rfl rfl ⟨rfl, rfl, rfl⟩
              · refine gv_if h (fun c1 h => ?_) (fun c1 h => ?_)
                · refine ev_ins hq rfl (S' := (31, [some (.ref 0), some (.int a1), some (.int a2), some (.int a3), some (.int a4), some (.int a5), some (.ref 114), none], [.ref 110], D, E)) (gv_sw (fun z => ((30, [some (.ref 0), some (.int a1), some (.int a2), some (.int a3), some (.int a4), some (.int a5), some (.ref 114), none], .int z :: [.ref 62], D, E) : mx_S)) c1 rfl) ?_
                  refine gv_n hq 3 (S' := (38, [some (.ref 0), some (.int a1), some (.int a2), some (.int a3), some (.int a4), some (.int a5), some (.ref 114), some (.ref 110)], [.int (D 114 1)], D, E)) rfl ?_
                  refine gv_b hq rfl h 49 41 rfl rfl rfl (fun h => ?_) (fun h => ?_)
                  · refine gv_n hq 1 (S' := (51, [some (.ref 0), some (.int a1), some (.int a2), some (.int a3), some (.int a4), some (.int a5), some (.ref 114), some (.ref 110)], [.int (-6 : Int32)], D, E)) rfl ?_
                    cases h
                    exact ev_ret hq rfl rfl ⟨rfl, rfl, rfl⟩
                  · refine gv_n hq 2 (S' := (46, [some (.ref 0), some (.int a1), some (.int a2), some (.int a3), some (.int a4), some (.int a5), some (.ref 114), some (.ref 110)], [.int (D 110 1)], D, E)) rfl ?_
                    refine gv_b hq rfl h 49 52 rfl rfl rfl (fun h => ?_) (fun h => ?_)
                    · refine gv_n hq 1 (S' := (51, [some (.ref 0), some (.int a1), some (.int a2), some (.int a3), some (.int a4), some (.int a5), some (.ref 114), some (.ref 110)], [.int (-6 : Int32)], D, E)) rfl ?_
                      cases h
                      exact ev_ret hq rfl rfl ⟨rfl, rfl, rfl⟩
                    · refine gv_n hq 4 (S' := (62, [some (.ref 0), some (.int a1), some (.int a2), some (.int a3), some (.int a4), some (.int a5), some (.ref 114), some (.ref 110)], [.int (D 110 2), .int (D 114 2)], D, E)) rfl ?_
                      refine gv_b hq rfl h 68 65 rfl rfl rfl (fun h => ?_) (fun h => ?_)
                      · refine gv_n hq 3 (S' := (73, [some (.ref 0), some (.int a1), some (.int a2), some (.int a3), some (.int a4), some (.int a5), some (.ref 114), some (.ref 110)], [.int a5, .int a2, .ref 114], D, E)) rfl ?_
                        refine gv_d hq rfl rfl rfl rfl rfl ((t_Row_holds_114 X d D E _ _ _ rfl)) (S' := (76, [some (.ref 0), some (.int a1), some (.int a2), some (.int a3), some (.int a4), some (.int a5), some (.ref 114), some (.ref 110)], [.int (g_Row_holds_114 D a2 a5)], D, E)) rfl ?_
                        refine gv_b hq rfl h 91 79 rfl rfl rfl (fun h => ?_) (fun h => ?_)
                        · refine gv_n hq 1 (S' := (93, [some (.ref 0), some (.int a1), some (.int a2), some (.int a3), some (.int a4), some (.int a5), some (.ref 114), some (.ref 110)], [.int (-7 : Int32)], D, E)) rfl ?_
                          cases h
                          exact ev_ret hq rfl rfl ⟨rfl, rfl, rfl⟩
                        · refine gv_n hq 3 (S' := (85, [some (.ref 0), some (.int a1), some (.int a2), some (.int a3), some (.int a4), some (.int a5), some (.ref 114), some (.ref 110)], [.int a5, .int a4, .ref 110], D, E)) rfl ?_
                          refine gv_d hq rfl rfl rfl rfl rfl ((t_Row_holds_110 X d D E _ _ _ rfl)) (S' := (88, [some (.ref 0), some (.int a1), some (.int a2), some (.int a3), some (.int a4), some (.int a5), some (.ref 114), some (.ref 110)], [.int (g_Row_holds_110 D a4 a5)], D, E)) rfl ?_
                          refine gv_b hq rfl h 91 94 rfl rfl rfl (fun h => ?_) (fun h => ?_)
                          · refine gv_n hq 1 (S' := (93, [some (.ref 0), some (.int a1), some (.int a2), some (.int a3), some (.int a4), some (.int a5), some (.ref 114), some (.ref 110)], [.int (-7 : Int32)], D, E)) rfl ?_
                            cases h
                            exact ev_ret hq rfl rfl ⟨rfl, rfl, rfl⟩
                          · refine gv_n hq 7 (S' := (109, [some (.ref 0), some (.int a1), some (.int a2), some (.int a3), some (.int a4), some (.int a5), some (.ref 114), some (.ref 110)], [.int a5, .int a4, .ref 111, .int a2, .ref 115], D, E)) rfl ?_
                            refine gv_cp hq rfl h (S' := (112, [some (.ref 0), some (.int a1), some (.int a2), some (.int a3), some (.int a4), some (.int a5), some (.ref 114), some (.ref 110)], [], D, (cE E 115 111 (a2).toNatClampNeg (a4).toNatClampNeg (a5).toNatClampNeg))) rfl rfl (fun h => ?_)
                            refine gv_n hq 1 (S' := (113, [some (.ref 0), some (.int a1), some (.int a2), some (.int a3), some (.int a4), some (.int a5), some (.ref 114), some (.ref 110)], [.int (nI 0)], D, (cE E 115 111 (a2).toNatClampNeg (a4).toNatClampNeg (a5).toNatClampNeg))) rfl ?_
                            cases h
                            exact ev_ret hq rfl rfl ⟨rfl, rfl, rfl⟩
                      · refine gv_n hq 1 (S' := (67, [some (.ref 0), some (.int a1), some (.int a2), some (.int a3), some (.int a4), some (.int a5), some (.ref 114), some (.ref 110)], [.int (-8 : Int32)], D, E)) rfl ?_
                        cases h
                        exact ev_ret hq rfl rfl ⟨rfl, rfl, rfl⟩
                · refine gv_if h (fun c2 h => ?_) (fun c2 h => ?_)
                  · refine ev_ins hq rfl (S' := (31, [some (.ref 0), some (.int a1), some (.int a2), some (.int a3), some (.int a4), some (.int a5), some (.ref 114), none], [.ref 112], D, E)) (gv_sw (fun z => ((30, [some (.ref 0), some (.int a1), some (.int a2), some (.int a3), some (.int a4), some (.int a5), some (.ref 114), none], .int z :: [.ref 62], D, E) : mx_S)) c2 rfl) ?_
                    refine gv_n hq 3 (S' := (38, [some (.ref 0), some (.int a1), some (.int a2), some (.int a3), some (.int a4), some (.int a5), some (.ref 114), some (.ref 112)], [.int (D 114 1)], D, E)) rfl ?_
                    refine gv_b hq rfl h 49 41 rfl rfl rfl (fun h => ?_) (fun h => ?_)
                    · refine gv_n hq 1 (S' := (51, [some (.ref 0), some (.int a1), some (.int a2), some (.int a3), some (.int a4), some (.int a5), some (.ref 114), some (.ref 112)], [.int (-6 : Int32)], D, E)) rfl ?_
                      cases h
                      exact ev_ret hq rfl rfl ⟨rfl, rfl, rfl⟩
                    · refine gv_n hq 2 (S' := (46, [some (.ref 0), some (.int a1), some (.int a2), some (.int a3), some (.int a4), some (.int a5), some (.ref 114), some (.ref 112)], [.int (D 112 1)], D, E)) rfl ?_
                      refine gv_b hq rfl h 49 52 rfl rfl rfl (fun h => ?_) (fun h => ?_)
                      · refine gv_n hq 1 (S' := (51, [some (.ref 0), some (.int a1), some (.int a2), some (.int a3), some (.int a4), some (.int a5), some (.ref 114), some (.ref 112)], [.int (-6 : Int32)], D, E)) rfl ?_
                        cases h
                        exact ev_ret hq rfl rfl ⟨rfl, rfl, rfl⟩
                      · refine gv_n hq 4 (S' := (62, [some (.ref 0), some (.int a1), some (.int a2), some (.int a3), some (.int a4), some (.int a5), some (.ref 114), some (.ref 112)], [.int (D 112 2), .int (D 114 2)], D, E)) rfl ?_
                        refine gv_b hq rfl h 68 65 rfl rfl rfl (fun h => ?_) (fun h => ?_)
                        · refine gv_n hq 3 (S' := (73, [some (.ref 0), some (.int a1), some (.int a2), some (.int a3), some (.int a4), some (.int a5), some (.ref 114), some (.ref 112)], [.int a5, .int a2, .ref 114], D, E)) rfl ?_
                          refine gv_d hq rfl rfl rfl rfl rfl ((t_Row_holds_114 X d D E _ _ _ rfl)) (S' := (76, [some (.ref 0), some (.int a1), some (.int a2), some (.int a3), some (.int a4), some (.int a5), some (.ref 114), some (.ref 112)], [.int (g_Row_holds_114 D a2 a5)], D, E)) rfl ?_
                          refine gv_b hq rfl h 91 79 rfl rfl rfl (fun h => ?_) (fun h => ?_)
                          · refine gv_n hq 1 (S' := (93, [some (.ref 0), some (.int a1), some (.int a2), some (.int a3), some (.int a4), some (.int a5), some (.ref 114), some (.ref 112)], [.int (-7 : Int32)], D, E)) rfl ?_
                            cases h
                            exact ev_ret hq rfl rfl ⟨rfl, rfl, rfl⟩
                          · refine gv_n hq 3 (S' := (85, [some (.ref 0), some (.int a1), some (.int a2), some (.int a3), some (.int a4), some (.int a5), some (.ref 114), some (.ref 112)], [.int a5, .int a4, .ref 112], D, E)) rfl ?_
                            refine gv_d hq rfl rfl rfl rfl rfl ((t_Row_holds_112 X d D E _ _ _ rfl)) (S' := (88, [some (.ref 0), some (.int a1), some (.int a2), some (.int a3), some (.int a4), some (.int a5), some (.ref 114), some (.ref 112)], [.int (g_Row_holds_112 D a4 a5)], D, E)) rfl ?_
                            refine gv_b hq rfl h 91 94 rfl rfl rfl (fun h => ?_) (fun h => ?_)
                            · refine gv_n hq 1 (S' := (93, [some (.ref 0), some (.int a1), some (.int a2), some (.int a3), some (.int a4), some (.int a5), some (.ref 114), some (.ref 112)], [.int (-7 : Int32)], D, E)) rfl ?_
                              cases h
                              exact ev_ret hq rfl rfl ⟨rfl, rfl, rfl⟩
                            · refine gv_n hq 7 (S' := (109, [some (.ref 0), some (.int a1), some (.int a2), some (.int a3), some (.int a4), some (.int a5), some (.ref 114), some (.ref 112)], [.int a5, .int a4, .ref 113, .int a2, .ref 115], D, E)) rfl ?_
                              refine gv_cp hq rfl h (S' := (112, [some (.ref 0), some (.int a1), some (.int a2), some (.int a3), some (.int a4), some (.int a5), some (.ref 114), some (.ref 112)], [], D, (cE E 115 113 (a2).toNatClampNeg (a4).toNatClampNeg (a5).toNatClampNeg))) rfl rfl (fun h => ?_)
                              refine gv_n hq 1 (S' := (113, [some (.ref 0), some (.int a1), some (.int a2), some (.int a3), some (.int a4), some (.int a5), some (.ref 114), some (.ref 112)], [.int (nI 0)], D, (cE E 115 113 (a2).toNatClampNeg (a4).toNatClampNeg (a5).toNatClampNeg))) rfl ?_
                              cases h
                              exact ev_ret hq rfl rfl ⟨rfl, rfl, rfl⟩
                        · refine gv_n hq 1 (S' := (67, [some (.ref 0), some (.int a1), some (.int a2), some (.int a3), some (.int a4), some (.int a5), some (.ref 114), some (.ref 112)], [.int (-8 : Int32)], D, E)) rfl ?_
                          cases h
                          exact ev_ret hq rfl rfl ⟨rfl, rfl, rfl⟩
                  · refine gv_if h (fun c3 h => ?_) (fun c3 h => ?_)
                    · refine ev_ins hq rfl (S' := (31, [some (.ref 0), some (.int a1), some (.int a2), some (.int a3), some (.int a4), some (.int a5), some (.ref 114), none], [.ref 114], D, E)) (gv_sw (fun z => ((30, [some (.ref 0), some (.int a1), some (.int a2), some (.int a3), some (.int a4), some (.int a5), some (.ref 114), none], .int z :: [.ref 62], D, E) : mx_S)) c3 rfl) ?_
                      refine gv_n hq 3 (S' := (38, [some (.ref 0), some (.int a1), some (.int a2), some (.int a3), some (.int a4), some (.int a5), some (.ref 114), some (.ref 114)], [.int (D 114 1)], D, E)) rfl ?_
                      refine gv_b hq rfl h 49 41 rfl rfl rfl (fun h => ?_) (fun h => ?_)
                      · refine gv_n hq 1 (S' := (51, [some (.ref 0), some (.int a1), some (.int a2), some (.int a3), some (.int a4), some (.int a5), some (.ref 114), some (.ref 114)], [.int (-6 : Int32)], D, E)) rfl ?_
                        cases h
                        exact ev_ret hq rfl rfl ⟨rfl, rfl, rfl⟩
                      · refine gv_n hq 2 (S' := (46, [some (.ref 0), some (.int a1), some (.int a2), some (.int a3), some (.int a4), some (.int a5), some (.ref 114), some (.ref 114)], [.int (D 114 1)], D, E)) rfl ?_
                        refine gv_b hq rfl h 49 52 rfl rfl rfl (fun h => ?_) (fun h => ?_)
                        · refine gv_n hq 1 (S' := (51, [some (.ref 0), some (.int a1), some (.int a2), some (.int a3), some (.int a4), some (.int a5), some (.ref 114), some (.ref 114)], [.int (-6 : Int32)], D, E)) rfl ?_
                          cases h
                          exact ev_ret hq rfl rfl ⟨rfl, rfl, rfl⟩
                        · refine gv_n hq 4 (S' := (62, [some (.ref 0), some (.int a1), some (.int a2), some (.int a3), some (.int a4), some (.int a5), some (.ref 114), some (.ref 114)], [.int (D 114 2), .int (D 114 2)], D, E)) rfl ?_
                          refine gv_b hq rfl h 68 65 rfl rfl rfl (fun h => ?_) (fun h => ?_)
                          · refine gv_n hq 3 (S' := (73, [some (.ref 0), some (.int a1), some (.int a2), some (.int a3), some (.int a4), some (.int a5), some (.ref 114), some (.ref 114)], [.int a5, .int a2, .ref 114], D, E)) rfl ?_
                            refine gv_d hq rfl rfl rfl rfl rfl ((t_Row_holds_114 X d D E _ _ _ rfl)) (S' := (76, [some (.ref 0), some (.int a1), some (.int a2), some (.int a3), some (.int a4), some (.int a5), some (.ref 114), some (.ref 114)], [.int (g_Row_holds_114 D a2 a5)], D, E)) rfl ?_
                            refine gv_b hq rfl h 91 79 rfl rfl rfl (fun h => ?_) (fun h => ?_)
                            · refine gv_n hq 1 (S' := (93, [some (.ref 0), some (.int a1), some (.int a2), some (.int a3), some (.int a4), some (.int a5), some (.ref 114), some (.ref 114)], [.int (-7 : Int32)], D, E)) rfl ?_
                              cases h
                              exact ev_ret hq rfl rfl ⟨rfl, rfl, rfl⟩
                            · refine gv_n hq 3 (S' := (85, [some (.ref 0), some (.int a1), some (.int a2), some (.int a3), some (.int a4), some (.int a5), some (.ref 114), some (.ref 114)], [.int a5, .int a4, .ref 114], D, E)) rfl ?_
                              refine gv_d hq rfl rfl rfl rfl rfl ((t_Row_holds_114 X d D E _ _ _ rfl)) (S' := (88, [some (.ref 0), some (.int a1), some (.int a2), some (.int a3), some (.int a4), some (.int a5), some (.ref 114), some (.ref 114)], [.int (g_Row_holds_114 D a4 a5)], D, E)) rfl ?_
                              refine gv_b hq rfl h 91 94 rfl rfl rfl (fun h => ?_) (fun h => ?_)
                              · refine gv_n hq 1 (S' := (93, [some (.ref 0), some (.int a1), some (.int a2), some (.int a3), some (.int a4), some (.int a5), some (.ref 114), some (.ref 114)], [.int (-7 : Int32)], D, E)) rfl ?_
                                cases h
                                exact ev_ret hq rfl rfl ⟨rfl, rfl, rfl⟩
                              · refine gv_n hq 7 (S' := (109, [some (.ref 0), some (.int a1), some (.int a2), some (.int a3), some (.int a4), some (.int a5), some (.ref 114), some (.ref 114)], [.int a5, .int a4, .ref 115, .int a2, .ref 115], D, E)) rfl ?_
                                refine gv_cp hq rfl h (S' := (112, [some (.ref 0), some (.int a1), some (.int a2), some (.int a3), some (.int a4), some (.int a5), some (.ref 114), some (.ref 114)], [], D, (cE E 115 115 (a2).toNatClampNeg (a4).toNatClampNeg (a5).toNatClampNeg))) rfl rfl (fun h => ?_)
                                refine gv_n hq 1 (S' := (113, [some (.ref 0), some (.int a1), some (.int a2), some (.int a3), some (.int a4), some (.int a5), some (.ref 114), some (.ref 114)], [.int (nI 0)], D, (cE E 115 115 (a2).toNatClampNeg (a4).toNatClampNeg (a5).toNatClampNeg))) rfl ?_
                                cases h
                                exact ev_ret hq rfl rfl ⟨rfl, rfl, rfl⟩
                          · refine gv_n hq 1 (S' := (67, [some (.ref 0), some (.int a1), some (.int a2), some (.int a3), some (.int a4), some (.int a5), some (.ref 114), some (.ref 114)], [.int (-8 : Int32)], D, E)) rfl ?_
                            cases h
                            exact ev_ret hq rfl rfl ⟨rfl, rfl, rfl⟩
                    · cases h
            · cases h
