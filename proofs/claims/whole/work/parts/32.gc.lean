/-! ===== pictures of the methods and the rows that tie them to their frames, printed by a program of mine ===== -/
def g_X_pew (F : Nat) (D : mx_D) (a1 : Int32) (a2 : Int32) : Option (Int32) := (if (g_Church_hasPew D a1) = 0 then (some (-100 : Int32)) else (if a2 = (nI 0) then (rk 4 a1 (some (D 20 (a1).toNatClampNeg))) else (if a2 = (nI 1) then (rk 4 a1 (some (D 21 (a1).toNatClampNeg))) else (if a2 = (nI 2) then (rk 4 a1 (some (D 22 (a1).toNatClampNeg))) else (if a2 = (nI 3) then (Option.bind (g_Church_sittersOf F D a1) (fun r1 => (some (g_Integer_bitCount r1)))) else (some (-100 : Int32)))))))
set_option maxRecDepth 100000 in
set_option maxHeartbeats 4000000 in
theorem t_X_pew (X : ev_X) (F : Nat) (d : Nat) (hd : 3 ≤ d + 1) (D : mx_D) (E : mx_E) (a1 : Int32) (a2 : Int32) (v : Int32) (h : g_X_pew F D a1 a2 = some v) : ev X (d + 1) 109 (0, [some (.ref 0), some (.int a1), some (.int a2)], [], D, E) (qR (some (.int v)) D E) := by
  have hq : kq_m 109 = some kq_q109 := rfl
  unfold g_X_pew at h
  refine gv_n hq 3 (S' := (5, [some (.ref 0), some (.int a1), some (.int a2)], [.int a1, .ref 19], D, E)) rfl ?_
  refine gv_d hq rfl rfl rfl rfl rfl ((t_Church_hasPew X d D E _ _ rfl)) (S' := (8, [some (.ref 0), some (.int a1), some (.int a2)], [.int (g_Church_hasPew D a1)], D, E)) rfl ?_
  refine gv_b hq rfl h 11 14 rfl rfl rfl (fun h => ?_) (fun h => ?_)
  · refine gv_n hq 1 (S' := (13, [some (.ref 0), some (.int a1), some (.int a2)], [.int (-100 : Int32)], D, E)) rfl ?_
    cases h
    exact ev_ret hq rfl rfl ⟨rfl, rfl, rfl⟩
  · refine gv_n hq 1 (S' := (15, [some (.ref 0), some (.int a1), some (.int a2)], [.int a2], D, E)) rfl ?_
    refine gv_if h (fun c0 h => ?_) (fun c0 h => ?_)
    · refine ev_ins hq rfl (S' := (44, [some (.ref 0), some (.int a1), some (.int a2)], [], D, E)) (gv_sw (fun z => ((15, [some (.ref 0), some (.int a1), some (.int a2)], .int z :: [], D, E) : mx_S)) c0 rfl) ?_
      refine gv_n hq 4 (S' := (52, [some (.ref 0), some (.int a1), some (.int a2)], [.int a1, .ref 20], D, E)) rfl ?_
      refine gv_ia hq rfl rfl rfl h 53 rfl (fun h => ?_)
      cases h
      exact ev_ret hq rfl rfl ⟨rfl, rfl, rfl⟩
    refine gv_if h (fun c1 h => ?_) (fun c1 h => ?_)
    · refine ev_ins hq rfl (S' := (54, [some (.ref 0), some (.int a1), some (.int a2)], [], D, E)) (gv_sw (fun z => ((15, [some (.ref 0), some (.int a1), some (.int a2)], .int z :: [], D, E) : mx_S)) c1 rfl) ?_
      refine gv_n hq 4 (S' := (62, [some (.ref 0), some (.int a1), some (.int a2)], [.int a1, .ref 21], D, E)) rfl ?_
      refine gv_ia hq rfl rfl rfl h 63 rfl (fun h => ?_)
      cases h
      exact ev_ret hq rfl rfl ⟨rfl, rfl, rfl⟩
    refine gv_if h (fun c2 h => ?_) (fun c2 h => ?_)
    · refine ev_ins hq rfl (S' := (64, [some (.ref 0), some (.int a1), some (.int a2)], [], D, E)) (gv_sw (fun z => ((15, [some (.ref 0), some (.int a1), some (.int a2)], .int z :: [], D, E) : mx_S)) c2 rfl) ?_
      refine gv_n hq 4 (S' := (72, [some (.ref 0), some (.int a1), some (.int a2)], [.int a1, .ref 22], D, E)) rfl ?_
      refine gv_ia hq rfl rfl rfl h 73 rfl (fun h => ?_)
      cases h
      exact ev_ret hq rfl rfl ⟨rfl, rfl, rfl⟩
    refine gv_if h (fun c3 h => ?_) (fun c3 h => ?_)
    · refine ev_ins hq rfl (S' := (74, [some (.ref 0), some (.int a1), some (.int a2)], [], D, E)) (gv_sw (fun z => ((15, [some (.ref 0), some (.int a1), some (.int a2)], .int z :: [], D, E) : mx_S)) c3 rfl) ?_
      refine gv_n hq 3 (S' := (79, [some (.ref 0), some (.int a1), some (.int a2)], [.int a1, .ref 19], D, E)) rfl ?_
      obtain ⟨r1, h1, h⟩ := Option.bind_eq_some_iff.mp h
      refine gv_d hq rfl rfl rfl rfl rfl (gv_dd (by omega) (t_Church_sittersOf X F (d - 1) (by omega) D E _ _ h1)) (S' := (82, [some (.ref 0), some (.int a1), some (.int a2)], [.int r1], D, E)) rfl ?_
      refine gv_d hq rfl rfl rfl rfl rfl ((t_Integer_bitCount X d D E _ _ rfl)) (S' := (85, [some (.ref 0), some (.int a1), some (.int a2)], [.int (g_Integer_bitCount r1)], D, E)) rfl ?_
      cases h
      exact ev_ret hq rfl rfl ⟨rfl, rfl, rfl⟩
    refine ev_ins hq rfl (S' := (86, [some (.ref 0), some (.int a1), some (.int a2)], [], D, E)) (gv_swd (x := a2) (n := 4) (fun z => ((15, [some (.ref 0), some (.int a1), some (.int a2)], .int z :: [], D, E) : mx_S)) ⟨⟨⟨⟨trivial, c0⟩, c1⟩, c2⟩, c3⟩ (m := 3) rfl rfl rfl) ?_
    refine gv_n hq 1 (S' := (88, [some (.ref 0), some (.int a1), some (.int a2)], [.int (-100 : Int32)], D, E)) rfl ?_
    cases h
    exact ev_ret hq rfl rfl ⟨rfl, rfl, rfl⟩
def g_M_isPew (D : mx_D) (a1 : Int64) : Int32 := (g_M_in a1 (lN 0) ((((D 117 0) - (nI 1))).toInt64))
set_option maxRecDepth 100000 in
set_option maxHeartbeats 4000000 in
theorem t_M_isPew (X : ev_X) (d : Nat) (hd : 1 ≤ d + 1) (D : mx_D) (E : mx_E) (a1 : Int64) (v : Int32) (h : g_M_isPew D a1 = v) : ev X (d + 1) 211 (0, [some (.ref 116), some (.long a1), none], [], D, E) (qR (some (.int v)) D E) := by
  have hq : kq_m 211 = some kq_q211 := rfl
  unfold g_M_isPew at h
  refine gv_n hq 9 (S' := (11, [some (.ref 116), some (.long a1), none], [.long ((((D 117 0) - (nI 1))).toInt64), .long (lN 0), .long a1], D, E)) rfl ?_
  refine gv_d hq rfl rfl rfl rfl rfl ((t_M_in X d D E _ _ _ _ rfl)) (S' := (14, [some (.ref 116), some (.long a1), none], [.int (g_M_in a1 (lN 0) ((((D 117 0) - (nI 1))).toInt64))], D, E)) rfl ?_
  subst h
  exact ev_rz hq rfl rfl rfl (z_M_in ..) ⟨rfl, rfl, rfl⟩
theorem z_M_isPew (D : mx_D) (a1 : Int64) : g_M_isPew D a1 = 0 ∨ g_M_isPew D a1 = 1 := by
  unfold g_M_isPew
  (repeat' split) <;> first | exact Or.inl rfl | exact Or.inr rfl | exact z_M_in ..
def g_M_of (D : mx_D) (a1 : Int32) (a2 : Int32) : Option (Int32) := (rk 106 (((nI 40) + ((nI 6) * a1)) + a2) (some (D 117 ((((nI 40) + ((nI 6) * a1)) + a2)).toNatClampNeg)))
set_option maxRecDepth 100000 in
set_option maxHeartbeats 4000000 in
theorem t_M_of (X : ev_X) (d : Nat) (D : mx_D) (E : mx_E) (a1 : Int32) (a2 : Int32) (v : Int32) (h : g_M_of D a1 a2 = some v) : ev X d 213 (0, [some (.ref 116), some (.int a1), some (.int a2)], [], D, E) (qR (some (.int v)) D E) := by
  have hq : kq_m 213 = some kq_q213 := rfl
  unfold g_M_of at h
  refine gv_n hq 9 (S' := (13, [some (.ref 116), some (.int a1), some (.int a2)], [.int (((nI 40) + ((nI 6) * a1)) + a2), .ref 117], D, E)) rfl ?_
  refine gv_ia hq rfl rfl rfl h 14 rfl (fun h => ?_)
  cases h
  exact ev_ret hq rfl rfl ⟨rfl, rfl, rfl⟩
def b_M_inPew_4 (F : Nat) (D : mx_D) (k4 : Int32 → Int32 → Int32 → Option (Int32)) (l1 : Int32) (l2 : Int32) (l3 : Int32) : Option (Int32) := (if (D 117 4) ≤ l3 then (some l2) else (Option.bind (g_M_of D l3 (nI 3)) (fun r1 => (if r1 = l1 then (k4 l1 (l2 ||| ((nI 1) <<< (l3 &&& 31))) (l3 + (nI 1))) else (k4 l1 (l2 ||| (nI 0)) (l3 + (nI 1)))))))
set_option maxRecDepth 100000 in
set_option maxHeartbeats 4000000 in
theorem tb_M_inPew_4 (X : ev_X) (F : Nat) (d : Nat) (hd : 1 ≤ d + 1) (D : mx_D) (E : mx_E) (k4 : Int32 → Int32 → Int32 → Option (Int32)) (K4 : ∀ (l1 : Int32) (l2 : Int32) (l3 : Int32) (v : Int32), k4 l1 l2 l3 = some v → ev X (d + 1) 212 (4, [some (.ref 116), some (.int l1), some (.int l2), some (.int l3)], [], D, E) (qR (some (.int v)) D E)) (l1 : Int32) (l2 : Int32) (l3 : Int32) (v : Int32) (h : b_M_inPew_4 F D k4 l1 l2 l3 = some v) : ev X (d + 1) 212 (4, [some (.ref 116), some (.int l1), some (.int l2), some (.int l3)], [], D, E) (qR (some (.int v)) D E) := by
  have hq : kq_m 212 = some kq_q212 := rfl
  unfold b_M_inPew_4 at h
  refine gv_n hq 5 (S' := (11, [some (.ref 116), some (.int l1), some (.int l2), some (.int l3)], [.int (D 117 4), .int l3], D, E)) rfl ?_
  refine gv_b hq rfl h 40 14 rfl rfl rfl (fun h => ?_) (fun h => ?_)
  · refine gv_n hq 1 (S' := (41, [some (.ref 116), some (.int l1), some (.int l2), some (.int l3)], [.int l2], D, E)) rfl ?_
    cases h
    exact ev_ret hq rfl rfl ⟨rfl, rfl, rfl⟩
  · refine gv_n hq 4 (S' := (18, [some (.ref 116), some (.int l1), some (.int l2), some (.int l3)], [.int (nI 3), .int l3, .ref 116, .int l2], D, E)) rfl ?_
    obtain ⟨r1, h1, h⟩ := Option.bind_eq_some_iff.mp h
    refine gv_d hq rfl rfl rfl rfl rfl ((t_M_of X d D E _ _ _ h1)) (S' := (21, [some (.ref 116), some (.int l1), some (.int l2), some (.int l3)], [.int r1, .int l2], D, E)) rfl ?_
    refine gv_n hq 1 (S' := (22, [some (.ref 116), some (.int l1), some (.int l2), some (.int l3)], [.int l1, .int r1, .int l2], D, E)) rfl ?_
    refine gv_b hq rfl h 25 31 rfl rfl rfl (fun h => ?_) (fun h => ?_)
    · refine gv_n hq 8 (S' := (4, [some (.ref 116), some (.int l1), some (.int (l2 ||| ((nI 1) <<< (l3 &&& 31)))), some (.int (l3 + (nI 1)))], [], D, E)) rfl ?_
      exact gv_w (K4 _ _ _ _ h) (And.intro rfl (And.intro rfl (And.intro rfl (And.intro rfl trivial))))
    · refine gv_n hq 5 (S' := (4, [some (.ref 116), some (.int l1), some (.int (l2 ||| (nI 0))), some (.int (l3 + (nI 1)))], [], D, E)) rfl ?_
      exact gv_w (K4 _ _ _ _ h) (And.intro rfl (And.intro rfl (And.intro rfl (And.intro rfl trivial))))
def g_M_inPew_4 (F : Nat) (D : mx_D) : Nat → Int32 → Int32 → Int32 → Option (Int32) := it (fun k4 => b_M_inPew_4 F D k4) (fun _ _ _ => none)
set_option maxRecDepth 100000 in
set_option maxHeartbeats 4000000 in
theorem t_M_inPew_4 (X : ev_X) (F : Nat) (d : Nat) (hd : 1 ≤ d + 1) (D : mx_D) (E : mx_E)  : ∀ (n : Nat) (l1 : Int32) (l2 : Int32) (l3 : Int32) (v : Int32), g_M_inPew_4 F D n l1 l2 l3 = some v → ev X (d + 1) 212 (4, [some (.ref 116), some (.int l1), some (.int l2), some (.int l3)], [], D, E) (qR (some (.int v)) D E) := by
  intro n
  induction n with
  | zero => intro l1 l2 l3 v h; cases h
  | succ n ih => intro l1 l2 l3 v h; exact tb_M_inPew_4 X F d hd D E (g_M_inPew_4 F D n) ih l1 l2 l3 v h
def g_M_inPew (F : Nat) (D : mx_D) (a1 : Int32) : Option (Int32) := (g_M_inPew_4 F D F a1 (nI 0) (nI 0))
set_option maxRecDepth 100000 in
set_option maxHeartbeats 4000000 in
theorem t_M_inPew (X : ev_X) (F : Nat) (d : Nat) (hd : 1 ≤ d + 1) (D : mx_D) (E : mx_E) (a1 : Int32) (v : Int32) (h : g_M_inPew F D a1 = some v) : ev X (d + 1) 212 (0, [some (.ref 116), some (.int a1), none, none], [], D, E) (qR (some (.int v)) D E) := by
  have hq : kq_m 212 = some kq_q212 := rfl
  unfold g_M_inPew at h
  refine gv_n hq 4 (S' := (4, [some (.ref 116), some (.int a1), some (.int (nI 0)), some (.int (nI 0))], [], D, E)) rfl ?_
  exact gv_w (t_M_inPew_4 X F d hd D E F _ _ _ _ h) (And.intro rfl (And.intro rfl (And.intro rfl (And.intro rfl trivial))))
def b_M_bits_4 (F : Nat) (k4 : Int32 → Int32 → Int32 → Option (Int32)) (l0 : Int32) (l1 : Int32) (l2 : Int32) : Option (Int32) := (if (nI 10) ≤ l2 then (some l1) else (k4 l0 (l1 + ((l0 >>> (l2 &&& 31)) &&& (nI 1))) (l2 + (nI 1))))
set_option maxRecDepth 100000 in
set_option maxHeartbeats 4000000 in
theorem tb_M_bits_4 (X : ev_X) (F : Nat) (d : Nat) (D : mx_D) (E : mx_E) (k4 : Int32 → Int32 → Int32 → Option (Int32)) (K4 : ∀ (l0 : Int32) (l1 : Int32) (l2 : Int32) (v : Int32), k4 l0 l1 l2 = some v → ev X d 214 (4, [some (.int l0), some (.int l1), some (.int l2)], [], D, E) (qR (some (.int v)) D E)) (l0 : Int32) (l1 : Int32) (l2 : Int32) (v : Int32) (h : b_M_bits_4 F k4 l0 l1 l2 = some v) : ev X d 214 (4, [some (.int l0), some (.int l1), some (.int l2)], [], D, E) (qR (some (.int v)) D E) := by
  have hq : kq_m 214 = some kq_q214 := rfl
  unfold b_M_bits_4 at h
  refine gv_n hq 2 (S' := (7, [some (.int l0), some (.int l1), some (.int l2)], [.int (nI 10), .int l2], D, E)) rfl ?_
  refine gv_b hq rfl h 24 10 rfl rfl rfl (fun h => ?_) (fun h => ?_)
  · refine gv_n hq 1 (S' := (25, [some (.int l0), some (.int l1), some (.int l2)], [.int l1], D, E)) rfl ?_
    cases h
    exact ev_ret hq rfl rfl ⟨rfl, rfl, rfl⟩
  · refine gv_n hq 10 (S' := (4, [some (.int l0), some (.int (l1 + ((l0 >>> (l2 &&& 31)) &&& (nI 1)))), some (.int (l2 + (nI 1)))], [], D, E)) rfl ?_
    exact gv_w (K4 _ _ _ _ h) (And.intro rfl (And.intro rfl (And.intro rfl trivial)))
def g_M_bits_4 (F : Nat) : Nat → Int32 → Int32 → Int32 → Option (Int32) := it (fun k4 => b_M_bits_4 F k4) (fun _ _ _ => none)
set_option maxRecDepth 100000 in
set_option maxHeartbeats 4000000 in
theorem t_M_bits_4 (X : ev_X) (F : Nat) (d : Nat) (D : mx_D) (E : mx_E)  : ∀ (n : Nat) (l0 : Int32) (l1 : Int32) (l2 : Int32) (v : Int32), g_M_bits_4 F n l0 l1 l2 = some v → ev X d 214 (4, [some (.int l0), some (.int l1), some (.int l2)], [], D, E) (qR (some (.int v)) D E) := by
  intro n
  induction n with
  | zero => intro l0 l1 l2 v h; cases h
  | succ n ih => intro l0 l1 l2 v h; exact tb_M_bits_4 X F d D E (g_M_bits_4 F n) ih l0 l1 l2 v h
def g_M_bits (F : Nat) (a0 : Int32) : Option (Int32) := (g_M_bits_4 F F a0 (nI 0) (nI 0))
set_option maxRecDepth 100000 in
set_option maxHeartbeats 4000000 in
theorem t_M_bits (X : ev_X) (F : Nat) (d : Nat) (D : mx_D) (E : mx_E) (a0 : Int32) (v : Int32) (h : g_M_bits F a0 = some v) : ev X d 214 (0, [some (.int a0), none, none], [], D, E) (qR (some (.int v)) D E) := by
  have hq : kq_m 214 = some kq_q214 := rfl
  unfold g_M_bits at h
  refine gv_n hq 4 (S' := (4, [some (.int a0), some (.int (nI 0)), some (.int (nI 0))], [], D, E)) rfl ?_
  exact gv_w (t_M_bits_4 X F d D E F _ _ _ _ h) (And.intro rfl (And.intro rfl (And.intro rfl trivial)))
def g_M_ofPew (D : mx_D) (a1 : Int32) (a2 : Int32) : Option (Int32) := (rk 106 (((nI 8) + ((nI 3) * a1)) + a2) (some (D 117 ((((nI 8) + ((nI 3) * a1)) + a2)).toNatClampNeg)))
set_option maxRecDepth 100000 in
set_option maxHeartbeats 4000000 in
theorem t_M_ofPew (X : ev_X) (d : Nat) (D : mx_D) (E : mx_E) (a1 : Int32) (a2 : Int32) (v : Int32) (h : g_M_ofPew D a1 a2 = some v) : ev X d 215 (0, [some (.ref 116), some (.int a1), some (.int a2)], [], D, E) (qR (some (.int v)) D E) := by
  have hq : kq_m 215 = some kq_q215 := rfl
  unfold g_M_ofPew at h
  refine gv_n hq 9 (S' := (12, [some (.ref 116), some (.int a1), some (.int a2)], [.int (((nI 8) + ((nI 3) * a1)) + a2), .ref 117], D, E)) rfl ?_
  refine gv_ia hq rfl rfl rfl h 13 rfl (fun h => ?_)
  cases h
  exact ev_ret hq rfl rfl ⟨rfl, rfl, rfl⟩
def g_M_pew (F : Nat) (D : mx_D) (a1 : Int32) (a2 : Int32) : Option (Int32) := (if (g_M_isPew D ((a1).toInt64)) = 0 then (some (-100 : Int32)) else (if (g_M_in ((a2).toInt64) (lN 0) (3 : Int64)) = 0 then (some (-100 : Int32)) else (if a2 = (nI 3) then (Option.bind (g_M_inPew F D a1) (fun r1 => (Option.bind (g_M_bits F r1) (fun r2 => (some r2))))) else (Option.bind (g_M_ofPew D a1 a2) (fun r3 => (some r3))))))
set_option maxRecDepth 100000 in
set_option maxHeartbeats 4000000 in
theorem t_M_pew (X : ev_X) (F : Nat) (d : Nat) (hd : 2 ≤ d + 1) (D : mx_D) (E : mx_E) (a1 : Int32) (a2 : Int32) (v : Int32) (h : g_M_pew F D a1 a2 = some v) : ev X (d + 1) 210 (0, [some (.ref 116), some (.int a1), some (.int a2)], [], D, E) (qR (some (.int v)) D E) := by
  have hq : kq_m 210 = some kq_q210 := rfl
  unfold g_M_pew at h
  refine gv_n hq 3 (S' := (3, [some (.ref 116), some (.int a1), some (.int a2)], [.long ((a1).toInt64), .ref 116], D, E)) rfl ?_
  refine gv_d hq rfl rfl rfl rfl rfl (gv_dd (by omega) (t_M_isPew X (d - 1) (by omega) D E _ _ rfl)) (S' := (6, [some (.ref 116), some (.int a1), some (.int a2)], [.int (g_M_isPew D ((a1).toInt64))], D, E)) rfl ?_
  refine gv_b hq rfl h 21 9 rfl rfl rfl (fun h => ?_) (fun h => ?_)
  · refine gv_n hq 1 (S' := (23, [some (.ref 116), some (.int a1), some (.int a2)], [.int (-100 : Int32)], D, E)) rfl ?_
    cases h
    exact ev_ret hq rfl rfl ⟨rfl, rfl, rfl⟩
  · refine gv_n hq 4 (S' := (15, [some (.ref 116), some (.int a1), some (.int a2)], [.long (3 : Int64), .long (lN 0), .long ((a2).toInt64)], D, E)) rfl ?_
    refine gv_d hq rfl rfl rfl rfl rfl ((t_M_in X d D E _ _ _ _ rfl)) (S' := (18, [some (.ref 116), some (.int a1), some (.int a2)], [.int (g_M_in ((a2).toInt64) (lN 0) (3 : Int64))], D, E)) rfl ?_
    refine gv_b hq rfl h 21 24 rfl rfl rfl (fun h => ?_) (fun h => ?_)
    · refine gv_n hq 1 (S' := (23, [some (.ref 116), some (.int a1), some (.int a2)], [.int (-100 : Int32)], D, E)) rfl ?_
      cases h
      exact ev_ret hq rfl rfl ⟨rfl, rfl, rfl⟩
    · refine gv_n hq 2 (S' := (26, [some (.ref 116), some (.int a1), some (.int a2)], [.int (nI 3), .int a2], D, E)) rfl ?_
      refine gv_b hq rfl h 29 40 rfl rfl rfl (fun h => ?_) (fun h => ?_)
      · refine gv_n hq 2 (S' := (31, [some (.ref 116), some (.int a1), some (.int a2)], [.int a1, .ref 116], D, E)) rfl ?_
        obtain ⟨r1, h1, h⟩ := Option.bind_eq_some_iff.mp h
        refine gv_d hq rfl rfl rfl rfl rfl (gv_dd (by omega) (t_M_inPew X F (d - 1) (by omega) D E _ _ h1)) (S' := (34, [some (.ref 116), some (.int a1), some (.int a2)], [.int r1], D, E)) rfl ?_
        obtain ⟨r2, h1, h⟩ := Option.bind_eq_some_iff.mp h
        refine gv_d hq rfl rfl rfl rfl rfl ((t_M_bits X F d D E _ _ h1)) (S' := (37, [some (.ref 116), some (.int a1), some (.int a2)], [.int r2], D, E)) rfl ?_
        refine gv_n hq 1 (S' := (46, [some (.ref 116), some (.int a1), some (.int a2)], [.int r2], D, E)) rfl ?_
        cases h
        exact ev_ret hq rfl rfl ⟨rfl, rfl, rfl⟩
      · refine gv_n hq 3 (S' := (43, [some (.ref 116), some (.int a1), some (.int a2)], [.int a2, .int a1, .ref 116], D, E)) rfl ?_
        obtain ⟨r3, h1, h⟩ := Option.bind_eq_some_iff.mp h
        refine gv_d hq rfl rfl rfl rfl rfl ((t_M_ofPew X d D E _ _ _ h1)) (S' := (46, [some (.ref 116), some (.int a1), some (.int a2)], [.int r3], D, E)) rfl ?_
        cases h
        exact ev_ret hq rfl rfl ⟨rfl, rfl, rfl⟩
def g_Church_hasPlace (D : mx_D) (a1 : Int32) (a2 : Int32) : Int32 := (if a1 < 0 then (nI 0) else (if (D 19 0) ≤ a1 then (nI 0) else (if a2 < 0 then (nI 0) else (if (D 19 1) ≤ a2 then (nI 0) else (nI 1)))))
set_option maxRecDepth 100000 in
set_option maxHeartbeats 4000000 in
theorem t_Church_hasPlace (X : ev_X) (d : Nat) (D : mx_D) (E : mx_E) (a1 : Int32) (a2 : Int32) (v : Int32) (h : g_Church_hasPlace D a1 a2 = v) : ev X d 10 (0, [some (.ref 19), some (.int a1), some (.int a2)], [], D, E) (qR (some (.int v)) D E) := by
  have hq : kq_m 10 = some kq_q10 := rfl
  unfold g_Church_hasPlace at h
  refine gv_n hq 1 (S' := (1, [some (.ref 19), some (.int a1), some (.int a2)], [.int a1], D, E)) rfl ?_
  refine gv_b hq rfl h 28 4 rfl rfl rfl (fun h => ?_) (fun h => ?_)
  · refine gv_n hq 1 (S' := (29, [some (.ref 19), some (.int a1), some (.int a2)], [.int (nI 0)], D, E)) rfl ?_
    subst h
    exact ev_ret hq rfl rfl ⟨rfl, rfl, rfl⟩
  · refine gv_n hq 3 (S' := (9, [some (.ref 19), some (.int a1), some (.int a2)], [.int (D 19 0), .int a1], D, E)) rfl ?_
    refine gv_b hq rfl h 28 12 rfl rfl rfl (fun h => ?_) (fun h => ?_)
    · refine gv_n hq 1 (S' := (29, [some (.ref 19), some (.int a1), some (.int a2)], [.int (nI 0)], D, E)) rfl ?_
      subst h
      exact ev_ret hq rfl rfl ⟨rfl, rfl, rfl⟩
    · refine gv_n hq 1 (S' := (13, [some (.ref 19), some (.int a1), some (.int a2)], [.int a2], D, E)) rfl ?_
      refine gv_b hq rfl h 28 16 rfl rfl rfl (fun h => ?_) (fun h => ?_)
      · refine gv_n hq 1 (S' := (29, [some (.ref 19), some (.int a1), some (.int a2)], [.int (nI 0)], D, E)) rfl ?_
        subst h
        exact ev_ret hq rfl rfl ⟨rfl, rfl, rfl⟩
      · refine gv_n hq 3 (S' := (21, [some (.ref 19), some (.int a1), some (.int a2)], [.int (D 19 1), .int a2], D, E)) rfl ?_
        refine gv_b hq rfl h 28 24 rfl rfl rfl (fun h => ?_) (fun h => ?_)
        · refine gv_n hq 1 (S' := (29, [some (.ref 19), some (.int a1), some (.int a2)], [.int (nI 0)], D, E)) rfl ?_
          subst h
          exact ev_ret hq rfl rfl ⟨rfl, rfl, rfl⟩
        · refine gv_n hq 2 (S' := (29, [some (.ref 19), some (.int a1), some (.int a2)], [.int (nI 1)], D, E)) rfl ?_
          subst h
          exact ev_ret hq rfl rfl ⟨rfl, rfl, rfl⟩
theorem z_Church_hasPlace (D : mx_D) (a1 : Int32) (a2 : Int32) : g_Church_hasPlace D a1 a2 = 0 ∨ g_Church_hasPlace D a1 a2 = 1 := by
  unfold g_Church_hasPlace
  (repeat' split) <;> first | exact Or.inl rfl | exact Or.inr rfl
def g_Church_floorAt (D : mx_D) (a1 : Int32) (a2 : Int32) : Option (Int32) := (if (g_Church_hasPlace D a1 a2) = 0 then (some (nI 0)) else (rk 4 a1 (rk 20 ((a1 * (nI 5)) + a2) (rk 4 a1 (some (((D 20 (a1).toNatClampNeg) - (D 23 (((a1 * (nI 5)) + a2)).toNatClampNeg)) - (D 22 (a1).toNatClampNeg)))))))
set_option maxRecDepth 100000 in
set_option maxHeartbeats 4000000 in
theorem t_Church_floorAt (X : ev_X) (d : Nat) (hd : 1 ≤ d + 1) (D : mx_D) (E : mx_E) (a1 : Int32) (a2 : Int32) (v : Int32) (h : g_Church_floorAt D a1 a2 = some v) : ev X (d + 1) 18 (0, [some (.ref 19), some (.int a1), some (.int a2)], [], D, E) (qR (some (.int v)) D E) := by
  have hq : kq_m 18 = some kq_q18 := rfl
  unfold g_Church_floorAt at h
  refine gv_n hq 3 (S' := (3, [some (.ref 19), some (.int a1), some (.int a2)], [.int a2, .int a1, .ref 19], D, E)) rfl ?_
  refine gv_d hq rfl rfl rfl rfl rfl ((t_Church_hasPlace X d D E _ _ _ rfl)) (S' := (6, [some (.ref 19), some (.int a1), some (.int a2)], [.int (g_Church_hasPlace D a1 a2)], D, E)) rfl ?_
  refine gv_b hq rfl h 36 9 rfl rfl rfl (fun h => ?_) (fun h => ?_)
  · refine gv_n hq 1 (S' := (37, [some (.ref 19), some (.int a1), some (.int a2)], [.int (nI 0)], D, E)) rfl ?_
    cases h
    exact ev_ret hq rfl rfl ⟨rfl, rfl, rfl⟩
  · refine gv_n hq 3 (S' := (14, [some (.ref 19), some (.int a1), some (.int a2)], [.int a1, .ref 20], D, E)) rfl ?_
    refine gv_ia hq rfl rfl rfl h 15 rfl (fun h => ?_)
    refine gv_n hq 7 (S' := (24, [some (.ref 19), some (.int a1), some (.int a2)], [.int ((a1 * (nI 5)) + a2), .ref 23, .int (D 20 (a1).toNatClampNeg)], D, E)) rfl ?_
    refine gv_ia hq rfl rfl rfl h 25 rfl (fun h => ?_)
    refine gv_n hq 4 (S' := (31, [some (.ref 19), some (.int a1), some (.int a2)], [.int a1, .ref 22, .int ((D 20 (a1).toNatClampNeg) - (D 23 (((a1 * (nI 5)) + a2)).toNatClampNeg))], D, E)) rfl ?_
    refine gv_ia hq rfl rfl rfl h 32 rfl (fun h => ?_)
    refine gv_n hq 2 (S' := (37, [some (.ref 19), some (.int a1), some (.int a2)], [.int (((D 20 (a1).toNatClampNeg) - (D 23 (((a1 * (nI 5)) + a2)).toNatClampNeg)) - (D 22 (a1).toNatClampNeg))], D, E)) rfl ?_
    cases h
    exact ev_ret hq rfl rfl ⟨rfl, rfl, rfl⟩
def g_X_floor (D : mx_D) (a1 : Int32) (a2 : Int32) : Option (Int32) := (if (g_Church_hasPlace D a1 a2) = 0 then (some (-1000 : Int32)) else (Option.bind (g_Church_floorAt D a1 a2) (fun r1 => (some r1))))
set_option maxRecDepth 100000 in
set_option maxHeartbeats 4000000 in
theorem t_X_floor (X : ev_X) (d : Nat) (hd : 2 ≤ d + 1) (D : mx_D) (E : mx_E) (a1 : Int32) (a2 : Int32) (v : Int32) (h : g_X_floor D a1 a2 = some v) : ev X (d + 1) 110 (0, [some (.ref 0), some (.int a1), some (.int a2)], [], D, E) (qR (some (.int v)) D E) := by
  have hq : kq_m 110 = some kq_q110 := rfl
  unfold g_X_floor at h
  refine gv_n hq 4 (S' := (6, [some (.ref 0), some (.int a1), some (.int a2)], [.int a2, .int a1, .ref 19], D, E)) rfl ?_
  refine gv_d hq rfl rfl rfl rfl rfl ((t_Church_hasPlace X d D E _ _ _ rfl)) (S' := (9, [some (.ref 0), some (.int a1), some (.int a2)], [.int (g_Church_hasPlace D a1 a2)], D, E)) rfl ?_
  refine gv_b hq rfl h 24 12 rfl rfl rfl (fun h => ?_) (fun h => ?_)
  · refine gv_n hq 1 (S' := (27, [some (.ref 0), some (.int a1), some (.int a2)], [.int (-1000 : Int32)], D, E)) rfl ?_
    cases h
    exact ev_ret hq rfl rfl ⟨rfl, rfl, rfl⟩
  · refine gv_n hq 4 (S' := (18, [some (.ref 0), some (.int a1), some (.int a2)], [.int a2, .int a1, .ref 19], D, E)) rfl ?_
    obtain ⟨r1, h1, h⟩ := Option.bind_eq_some_iff.mp h
    refine gv_d hq rfl rfl rfl rfl rfl (gv_dd (by omega) (t_Church_floorAt X (d - 1) (by omega) D E _ _ _ h1)) (S' := (21, [some (.ref 0), some (.int a1), some (.int a2)], [.int r1], D, E)) rfl ?_
    refine gv_n hq 1 (S' := (27, [some (.ref 0), some (.int a1), some (.int a2)], [.int r1], D, E)) rfl ?_
    cases h
    exact ev_ret hq rfl rfl ⟨rfl, rfl, rfl⟩
def g_M_isPlace (D : mx_D) (a1 : Int64) (a3 : Int64) : Int32 := (if (g_M_isPew D a1) = 0 then (nI 0) else (if (g_M_in a3 (lN 0) ((((D 117 1) - (nI 1))).toInt64)) = 0 then (nI 0) else (nI 1)))
set_option maxRecDepth 100000 in
set_option maxHeartbeats 4000000 in
theorem t_M_isPlace (X : ev_X) (d : Nat) (hd : 2 ≤ d + 1) (D : mx_D) (E : mx_E) (a1 : Int64) (a3 : Int64) (v : Int32) (h : g_M_isPlace D a1 a3 = v) : ev X (d + 1) 217 (0, [some (.ref 116), some (.long a1), none, some (.long a3), none], [], D, E) (qR (some (.int v)) D E) := by
  have hq : kq_m 217 = some kq_q217 := rfl
  unfold g_M_isPlace at h
  refine gv_n hq 2 (S' := (2, [some (.ref 116), some (.long a1), none, some (.long a3), none], [.long a1, .ref 116], D, E)) rfl ?_
  refine gv_d hq rfl rfl rfl rfl rfl (gv_dd (by omega) (t_M_isPew X (d - 1) (by omega) D E _ _ rfl)) (S' := (5, [some (.ref 116), some (.long a1), none, some (.long a3), none], [.int (g_M_isPew D a1)], D, E)) rfl ?_
  refine gv_b hq rfl h 29 8 rfl rfl rfl (fun h => ?_) (fun h => ?_)
  · refine gv_n hq 1 (S' := (30, [some (.ref 116), some (.long a1), none, some (.long a3), none], [.int (nI 0)], D, E)) rfl ?_
    subst h
    exact ev_ret hq rfl rfl ⟨rfl, rfl, rfl⟩
  · refine gv_n hq 9 (S' := (19, [some (.ref 116), some (.long a1), none, some (.long a3), none], [.long ((((D 117 1) - (nI 1))).toInt64), .long (lN 0), .long a3], D, E)) rfl ?_
    refine gv_d hq rfl rfl rfl rfl rfl ((t_M_in X d D E _ _ _ _ rfl)) (S' := (22, [some (.ref 116), some (.long a1), none, some (.long a3), none], [.int (g_M_in a3 (lN 0) ((((D 117 1) - (nI 1))).toInt64))], D, E)) rfl ?_
    refine gv_b hq rfl h 29 25 rfl rfl rfl (fun h => ?_) (fun h => ?_)
    · refine gv_n hq 1 (S' := (30, [some (.ref 116), some (.long a1), none, some (.long a3), none], [.int (nI 0)], D, E)) rfl ?_
      subst h
      exact ev_ret hq rfl rfl ⟨rfl, rfl, rfl⟩
    · refine gv_n hq 2 (S' := (30, [some (.ref 116), some (.long a1), none, some (.long a3), none], [.int (nI 1)], D, E)) rfl ?_
      subst h
      exact ev_ret hq rfl rfl ⟨rfl, rfl, rfl⟩
theorem z_M_isPlace (D : mx_D) (a1 : Int64) (a3 : Int64) : g_M_isPlace D a1 a3 = 0 ∨ g_M_isPlace D a1 a3 = 1 := by
  unfold g_M_isPlace
  (repeat' split) <;> first | exact Or.inl rfl | exact Or.inr rfl
def g_M_trenchAt (a1 : Int32) (a2 : Int32) : Int32 := (((nI 20) + ((nI 5) * a1)) + a2)
set_option maxRecDepth 100000 in
set_option maxHeartbeats 4000000 in
theorem t_M_trenchAt (X : ev_X) (d : Nat) (D : mx_D) (E : mx_E) (a1 : Int32) (a2 : Int32) (v : Int32) (h : g_M_trenchAt a1 a2 = v) : ev X d 219 (0, [some (.ref 116), some (.int a1), some (.int a2)], [], D, E) (qR (some (.int v)) D E) := by
  have hq : kq_m 219 = some kq_q219 := rfl
  unfold g_M_trenchAt at h
  refine gv_n hq 7 (S' := (8, [some (.ref 116), some (.int a1), some (.int a2)], [.int (((nI 20) + ((nI 5) * a1)) + a2)], D, E)) rfl ?_
  subst h
  exact ev_ret hq rfl rfl ⟨rfl, rfl, rfl⟩
def g_M_floorOf (D : mx_D) (a1 : Int32) (a2 : Int32) : Option (Int32) := (Option.bind (g_M_ofPew D a1 (nI 0)) (fun r1 => (Option.bind (g_M_ofPew D a1 (nI 2)) (fun r2 => (rk 106 (g_M_trenchAt a1 a2) (some ((r1 - r2) - (D 117 ((g_M_trenchAt a1 a2)).toNatClampNeg))))))))
set_option maxRecDepth 100000 in
set_option maxHeartbeats 4000000 in
theorem t_M_floorOf (X : ev_X) (d : Nat) (hd : 1 ≤ d + 1) (D : mx_D) (E : mx_E) (a1 : Int32) (a2 : Int32) (v : Int32) (h : g_M_floorOf D a1 a2 = some v) : ev X (d + 1) 218 (0, [some (.ref 116), some (.int a1), some (.int a2)], [], D, E) (qR (some (.int v)) D E) := by
  have hq : kq_m 218 = some kq_q218 := rfl
  unfold g_M_floorOf at h
  refine gv_n hq 3 (S' := (3, [some (.ref 116), some (.int a1), some (.int a2)], [.int (nI 0), .int a1, .ref 116], D, E)) rfl ?_
  obtain ⟨r1, h1, h⟩ := Option.bind_eq_some_iff.mp h
  refine gv_d hq rfl rfl rfl rfl rfl ((t_M_ofPew X d D E _ _ _ h1)) (S' := (6, [some (.ref 116), some (.int a1), some (.int a2)], [.int r1], D, E)) rfl ?_
  refine gv_n hq 3 (S' := (9, [some (.ref 116), some (.int a1), some (.int a2)], [.int (nI 2), .int a1, .ref 116, .int r1], D, E)) rfl ?_
  obtain ⟨r2, h1, h⟩ := Option.bind_eq_some_iff.mp h
  refine gv_d hq rfl rfl rfl rfl rfl ((t_M_ofPew X d D E _ _ _ h1)) (S' := (12, [some (.ref 116), some (.int a1), some (.int a2)], [.int r2, .int r1], D, E)) rfl ?_
  refine gv_n hq 6 (S' := (20, [some (.ref 116), some (.int a1), some (.int a2)], [.int a2, .int a1, .ref 116, .ref 117, .int (r1 - r2)], D, E)) rfl ?_
  refine gv_d hq rfl rfl rfl rfl rfl ((t_M_trenchAt X d D E _ _ _ rfl)) (S' := (23, [some (.ref 116), some (.int a1), some (.int a2)], [.int (g_M_trenchAt a1 a2), .ref 117, .int (r1 - r2)], D, E)) rfl ?_
  refine gv_ia hq rfl rfl rfl h 24 rfl (fun h => ?_)
  refine gv_n hq 1 (S' := (25, [some (.ref 116), some (.int a1), some (.int a2)], [.int ((r1 - r2) - (D 117 ((g_M_trenchAt a1 a2)).toNatClampNeg))], D, E)) rfl ?_
  cases h
  exact ev_ret hq rfl rfl ⟨rfl, rfl, rfl⟩
def g_M_floor (D : mx_D) (a1 : Int32) (a2 : Int32) : Option (Int32) := (if (g_M_isPlace D ((a1).toInt64) ((a2).toInt64)) = 0 then (some (-1000 : Int32)) else (Option.bind (g_M_floorOf D a1 a2) (fun r1 => (some r1))))
set_option maxRecDepth 100000 in
set_option maxHeartbeats 4000000 in
theorem t_M_floor (X : ev_X) (d : Nat) (hd : 3 ≤ d + 1) (D : mx_D) (E : mx_E) (a1 : Int32) (a2 : Int32) (v : Int32) (h : g_M_floor D a1 a2 = some v) : ev X (d + 1) 216 (0, [some (.ref 116), some (.int a1), some (.int a2)], [], D, E) (qR (some (.int v)) D E) := by
  have hq : kq_m 216 = some kq_q216 := rfl
  unfold g_M_floor at h
  refine gv_n hq 5 (S' := (5, [some (.ref 116), some (.int a1), some (.int a2)], [.long ((a2).toInt64), .long ((a1).toInt64), .ref 116], D, E)) rfl ?_
  refine gv_d hq rfl rfl rfl rfl rfl (gv_dd (by omega) (t_M_isPlace X (d - 1) (by omega) D E _ _ _ rfl)) (S' := (8, [some (.ref 116), some (.int a1), some (.int a2)], [.int (g_M_isPlace D ((a1).toInt64) ((a2).toInt64))], D, E)) rfl ?_
  refine gv_b hq rfl h 20 11 rfl rfl rfl (fun h => ?_) (fun h => ?_)
  · refine gv_n hq 1 (S' := (23, [some (.ref 116), some (.int a1), some (.int a2)], [.int (-1000 : Int32)], D, E)) rfl ?_
    cases h
    exact ev_ret hq rfl rfl ⟨rfl, rfl, rfl⟩
  · refine gv_n hq 3 (S' := (14, [some (.ref 116), some (.int a1), some (.int a2)], [.int a2, .int a1, .ref 116], D, E)) rfl ?_
    obtain ⟨r1, h1, h⟩ := Option.bind_eq_some_iff.mp h
    refine gv_d hq rfl rfl rfl rfl rfl (gv_dd (by omega) (t_M_floorOf X (d - 1) (by omega) D E _ _ _ h1)) (S' := (17, [some (.ref 116), some (.int a1), some (.int a2)], [.int r1], D, E)) rfl ?_
    refine gv_n hq 1 (S' := (23, [some (.ref 116), some (.int a1), some (.int a2)], [.int r1], D, E)) rfl ?_
    cases h
    exact ev_ret hq rfl rfl ⟨rfl, rfl, rfl⟩
def b_Church_sitterAt_2 (F : Nat) (D : mx_D) (k2 : Int32 → Int32 → Int32 → Option (Int32)) (l1 : Int32) (l2 : Int32) (l3 : Int32) : Option (Int32) := (if (D 24 6) ≤ l3 then (some (-1 : Int32)) else (Option.bind (g_Church_isSeated D l3) (fun r1 => (if r1 = 0 then (k2 l1 l2 (l3 + (nI 1))) else (rk 8 l3 (if (D 28 (l3).toNatClampNeg) = l1 then (rk 8 l3 (if (D 29 (l3).toNatClampNeg) = l2 then (some l3) else (k2 l1 l2 (l3 + (nI 1))))) else (k2 l1 l2 (l3 + (nI 1)))))))))
set_option maxRecDepth 100000 in
set_option maxHeartbeats 4000000 in
theorem tb_Church_sitterAt_2 (X : ev_X) (F : Nat) (d : Nat) (hd : 2 ≤ d + 1) (D : mx_D) (E : mx_E) (k2 : Int32 → Int32 → Int32 → Option (Int32)) (K2 : ∀ (l1 : Int32) (l2 : Int32) (l3 : Int32) (v : Int32), k2 l1 l2 l3 = some v → ev X (d + 1) 13 (2, [some (.ref 19), some (.int l1), some (.int l2), some (.int l3)], [], D, E) (qR (some (.int v)) D E)) (l1 : Int32) (l2 : Int32) (l3 : Int32) (v : Int32) (h : b_Church_sitterAt_2 F D k2 l1 l2 l3 = some v) : ev X (d + 1) 13 (2, [some (.ref 19), some (.int l1), some (.int l2), some (.int l3)], [], D, E) (qR (some (.int v)) D E) := by
  have hq : kq_m 13 = some kq_q13 := rfl
  unfold b_Church_sitterAt_2 at h
  refine gv_n hq 4 (S' := (10, [some (.ref 19), some (.int l1), some (.int l2), some (.int l3)], [.int (D 24 6), .int l3], D, E)) rfl ?_
  refine gv_b hq rfl h 55 13 rfl rfl rfl (fun h => ?_) (fun h => ?_)
  · refine gv_n hq 1 (S' := (56, [some (.ref 19), some (.int l1), some (.int l2), some (.int l3)], [.int (-1 : Int32)], D, E)) rfl ?_
    cases h
    exact ev_ret hq rfl rfl ⟨rfl, rfl, rfl⟩
  · refine gv_n hq 2 (S' := (15, [some (.ref 19), some (.int l1), some (.int l2), some (.int l3)], [.int l3, .ref 19], D, E)) rfl ?_
    obtain ⟨r1, h1, h⟩ := Option.bind_eq_some_iff.mp h
    refine gv_d hq rfl rfl rfl rfl rfl (gv_dd (by omega) (t_Church_isSeated X (d - 1) (by omega) D E _ _ h1)) (S' := (18, [some (.ref 19), some (.int l1), some (.int l2), some (.int l3)], [.int r1], D, E)) rfl ?_
    refine gv_b hq rfl h 49 21 rfl rfl rfl (fun h => ?_) (fun h => ?_)
    · refine gv_n hq 2 (S' := (2, [some (.ref 19), some (.int l1), some (.int l2), some (.int (l3 + (nI 1)))], [], D, E)) rfl ?_
      exact gv_w (K2 _ _ _ _ h) (And.intro rfl (And.intro rfl (And.intro rfl (And.intro rfl trivial))))
    · refine gv_n hq 4 (S' := (29, [some (.ref 19), some (.int l1), some (.int l2), some (.int l3)], [.int l3, .ref 28], D, E)) rfl ?_
      refine gv_ia hq rfl rfl rfl h 30 rfl (fun h => ?_)
      refine gv_n hq 1 (S' := (31, [some (.ref 19), some (.int l1), some (.int l2), some (.int l3)], [.int l1, .int (D 28 (l3).toNatClampNeg)], D, E)) rfl ?_
      refine gv_b hq rfl h 34 49 rfl rfl rfl (fun h => ?_) (fun h => ?_)
      · refine gv_n hq 4 (S' := (42, [some (.ref 19), some (.int l1), some (.int l2), some (.int l3)], [.int l3, .ref 29], D, E)) rfl ?_
        refine gv_ia hq rfl rfl rfl h 43 rfl (fun h => ?_)
        refine gv_n hq 1 (S' := (44, [some (.ref 19), some (.int l1), some (.int l2), some (.int l3)], [.int l2, .int (D 29 (l3).toNatClampNeg)], D, E)) rfl ?_
        refine gv_b hq rfl h 47 49 rfl rfl rfl (fun h => ?_) (fun h => ?_)
        · refine gv_n hq 1 (S' := (48, [some (.ref 19), some (.int l1), some (.int l2), some (.int l3)], [.int l3], D, E)) rfl ?_
          cases h
          exact ev_ret hq rfl rfl ⟨rfl, rfl, rfl⟩
        · refine gv_n hq 2 (S' := (2, [some (.ref 19), some (.int l1), some (.int l2), some (.int (l3 + (nI 1)))], [], D, E)) rfl ?_
          exact gv_w (K2 _ _ _ _ h) (And.intro rfl (And.intro rfl (And.intro rfl (And.intro rfl trivial))))
      · refine gv_n hq 2 (S' := (2, [some (.ref 19), some (.int l1), some (.int l2), some (.int (l3 + (nI 1)))], [], D, E)) rfl ?_
        exact gv_w (K2 _ _ _ _ h) (And.intro rfl (And.intro rfl (And.intro rfl (And.intro rfl trivial))))
def g_Church_sitterAt_2 (F : Nat) (D : mx_D) : Nat → Int32 → Int32 → Int32 → Option (Int32) := it (fun k2 => b_Church_sitterAt_2 F D k2) (fun _ _ _ => none)
set_option maxRecDepth 100000 in
set_option maxHeartbeats 4000000 in
theorem t_Church_sitterAt_2 (X : ev_X) (F : Nat) (d : Nat) (hd : 2 ≤ d + 1) (D : mx_D) (E : mx_E)  : ∀ (n : Nat) (l1 : Int32) (l2 : Int32) (l3 : Int32) (v : Int32), g_Church_sitterAt_2 F D n l1 l2 l3 = some v → ev X (d + 1) 13 (2, [some (.ref 19), some (.int l1), some (.int l2), some (.int l3)], [], D, E) (qR (some (.int v)) D E) := by
  intro n
  induction n with
  | zero => intro l1 l2 l3 v h; cases h
  | succ n ih => intro l1 l2 l3 v h; exact tb_Church_sitterAt_2 X F d hd D E (g_Church_sitterAt_2 F D n) ih l1 l2 l3 v h
def g_Church_sitterAt (F : Nat) (D : mx_D) (a1 : Int32) (a2 : Int32) : Option (Int32) := (g_Church_sitterAt_2 F D F a1 a2 (nI 0))
set_option maxRecDepth 100000 in
set_option maxHeartbeats 4000000 in
theorem t_Church_sitterAt (X : ev_X) (F : Nat) (d : Nat) (hd : 2 ≤ d + 1) (D : mx_D) (E : mx_E) (a1 : Int32) (a2 : Int32) (v : Int32) (h : g_Church_sitterAt F D a1 a2 = some v) : ev X (d + 1) 13 (0, [some (.ref 19), some (.int a1), some (.int a2), none], [], D, E) (qR (some (.int v)) D E) := by
  have hq : kq_m 13 = some kq_q13 := rfl
  unfold g_Church_sitterAt at h
  refine gv_n hq 2 (S' := (2, [some (.ref 19), some (.int a1), some (.int a2), some (.int (nI 0))], [], D, E)) rfl ?_
  exact gv_w (t_Church_sitterAt_2 X F d hd D E F _ _ _ _ h) (And.intro rfl (And.intro rfl (And.intro rfl (And.intro rfl trivial))))
def g_X_who (F : Nat) (D : mx_D) (a1 : Int32) (a2 : Int32) : Option (Int32) := (if (g_Church_hasPlace D a1 a2) = 0 then (some (-2 : Int32)) else (Option.bind (g_Church_sitterAt F D a1 a2) (fun r1 => (some r1))))
set_option maxRecDepth 100000 in
set_option maxHeartbeats 4000000 in
theorem t_X_who (X : ev_X) (F : Nat) (d : Nat) (hd : 3 ≤ d + 1) (D : mx_D) (E : mx_E) (a1 : Int32) (a2 : Int32) (v : Int32) (h : g_X_who F D a1 a2 = some v) : ev X (d + 1) 111 (0, [some (.ref 0), some (.int a1), some (.int a2)], [], D, E) (qR (some (.int v)) D E) := by
  have hq : kq_m 111 = some kq_q111 := rfl
  unfold g_X_who at h
  refine gv_n hq 4 (S' := (6, [some (.ref 0), some (.int a1), some (.int a2)], [.int a2, .int a1, .ref 19], D, E)) rfl ?_
  refine gv_d hq rfl rfl rfl rfl rfl ((t_Church_hasPlace X d D E _ _ _ rfl)) (S' := (9, [some (.ref 0), some (.int a1), some (.int a2)], [.int (g_Church_hasPlace D a1 a2)], D, E)) rfl ?_
  refine gv_b hq rfl h 24 12 rfl rfl rfl (fun h => ?_) (fun h => ?_)
  · refine gv_n hq 1 (S' := (26, [some (.ref 0), some (.int a1), some (.int a2)], [.int (-2 : Int32)], D, E)) rfl ?_
    cases h
    exact ev_ret hq rfl rfl ⟨rfl, rfl, rfl⟩
  · refine gv_n hq 4 (S' := (18, [some (.ref 0), some (.int a1), some (.int a2)], [.int a2, .int a1, .ref 19], D, E)) rfl ?_
    obtain ⟨r1, h1, h⟩ := Option.bind_eq_some_iff.mp h
    refine gv_d hq rfl rfl rfl rfl rfl (gv_dd (by omega) (t_Church_sitterAt X F (d - 1) (by omega) D E _ _ _ h1)) (S' := (21, [some (.ref 0), some (.int a1), some (.int a2)], [.int r1], D, E)) rfl ?_
    refine gv_n hq 1 (S' := (26, [some (.ref 0), some (.int a1), some (.int a2)], [.int r1], D, E)) rfl ?_
    cases h
    exact ev_ret hq rfl rfl ⟨rfl, rfl, rfl⟩
def b_M_sitterAt_2 (F : Nat) (D : mx_D) (k2 : Int32 → Int32 → Int32 → Option (Int32)) (l1 : Int32) (l2 : Int32) (l3 : Int32) : Option (Int32) := (if (D 117 4) ≤ l3 then (some (-1 : Int32)) else (Option.bind (g_M_of D l3 (nI 3)) (fun r1 => (if r1 = l1 then (Option.bind (g_M_of D l3 (nI 4)) (fun r2 => (if r2 = l2 then (some l3) else (k2 l1 l2 (l3 + (nI 1)))))) else (k2 l1 l2 (l3 + (nI 1)))))))
set_option maxRecDepth 100000 in
set_option maxHeartbeats 4000000 in
theorem tb_M_sitterAt_2 (X : ev_X) (F : Nat) (d : Nat) (hd : 1 ≤ d + 1) (D : mx_D) (E : mx_E) (k2 : Int32 → Int32 → Int32 → Option (Int32)) (K2 : ∀ (l1 : Int32) (l2 : Int32) (l3 : Int32) (v : Int32), k2 l1 l2 l3 = some v → ev X (d + 1) 221 (2, [some (.ref 116), some (.int l1), some (.int l2), some (.int l3)], [], D, E) (qR (some (.int v)) D E)) (l1 : Int32) (l2 : Int32) (l3 : Int32) (v : Int32) (h : b_M_sitterAt_2 F D k2 l1 l2 l3 = some v) : ev X (d + 1) 221 (2, [some (.ref 116), some (.int l1), some (.int l2), some (.int l3)], [], D, E) (qR (some (.int v)) D E) := by
  have hq : kq_m 221 = some kq_q221 := rfl
  unfold b_M_sitterAt_2 at h
  refine gv_n hq 5 (S' := (9, [some (.ref 116), some (.int l1), some (.int l2), some (.int l3)], [.int (D 117 4), .int l3], D, E)) rfl ?_
  refine gv_b hq rfl h 40 12 rfl rfl rfl (fun h => ?_) (fun h => ?_)
  · refine gv_n hq 1 (S' := (41, [some (.ref 116), some (.int l1), some (.int l2), some (.int l3)], [.int (-1 : Int32)], D, E)) rfl ?_
    cases h
    exact ev_ret hq rfl rfl ⟨rfl, rfl, rfl⟩
  · refine gv_n hq 3 (S' := (15, [some (.ref 116), some (.int l1), some (.int l2), some (.int l3)], [.int (nI 3), .int l3, .ref 116], D, E)) rfl ?_
    obtain ⟨r1, h1, h⟩ := Option.bind_eq_some_iff.mp h
    refine gv_d hq rfl rfl rfl rfl rfl ((t_M_of X d D E _ _ _ h1)) (S' := (18, [some (.ref 116), some (.int l1), some (.int l2), some (.int l3)], [.int r1], D, E)) rfl ?_
    refine gv_n hq 1 (S' := (19, [some (.ref 116), some (.int l1), some (.int l2), some (.int l3)], [.int l1, .int r1], D, E)) rfl ?_
    refine gv_b hq rfl h 22 34 rfl rfl rfl (fun h => ?_) (fun h => ?_)
    · refine gv_n hq 3 (S' := (25, [some (.ref 116), some (.int l1), some (.int l2), some (.int l3)], [.int (nI 4), .int l3, .ref 116], D, E)) rfl ?_
      obtain ⟨r2, h1, h⟩ := Option.bind_eq_some_iff.mp h
      refine gv_d hq rfl rfl rfl rfl rfl ((t_M_of X d D E _ _ _ h1)) (S' := (28, [some (.ref 116), some (.int l1), some (.int l2), some (.int l3)], [.int r2], D, E)) rfl ?_
      refine gv_n hq 1 (S' := (29, [some (.ref 116), some (.int l1), some (.int l2), some (.int l3)], [.int l2, .int r2], D, E)) rfl ?_
      refine gv_b hq rfl h 32 34 rfl rfl rfl (fun h => ?_) (fun h => ?_)
      · refine gv_n hq 1 (S' := (33, [some (.ref 116), some (.int l1), some (.int l2), some (.int l3)], [.int l3], D, E)) rfl ?_
        cases h
        exact ev_ret hq rfl rfl ⟨rfl, rfl, rfl⟩
      · refine gv_n hq 2 (S' := (2, [some (.ref 116), some (.int l1), some (.int l2), some (.int (l3 + (nI 1)))], [], D, E)) rfl ?_
        exact gv_w (K2 _ _ _ _ h) (And.intro rfl (And.intro rfl (And.intro rfl (And.intro rfl trivial))))
    · refine gv_n hq 2 (S' := (2, [some (.ref 116), some (.int l1), some (.int l2), some (.int (l3 + (nI 1)))], [], D, E)) rfl ?_
      exact gv_w (K2 _ _ _ _ h) (And.intro rfl (And.intro rfl (And.intro rfl (And.intro rfl trivial))))
def g_M_sitterAt_2 (F : Nat) (D : mx_D) : Nat → Int32 → Int32 → Int32 → Option (Int32) := it (fun k2 => b_M_sitterAt_2 F D k2) (fun _ _ _ => none)
set_option maxRecDepth 100000 in
set_option maxHeartbeats 4000000 in
theorem t_M_sitterAt_2 (X : ev_X) (F : Nat) (d : Nat) (hd : 1 ≤ d + 1) (D : mx_D) (E : mx_E)  : ∀ (n : Nat) (l1 : Int32) (l2 : Int32) (l3 : Int32) (v : Int32), g_M_sitterAt_2 F D n l1 l2 l3 = some v → ev X (d + 1) 221 (2, [some (.ref 116), some (.int l1), some (.int l2), some (.int l3)], [], D, E) (qR (some (.int v)) D E) := by
  intro n
  induction n with
  | zero => intro l1 l2 l3 v h; cases h
  | succ n ih => intro l1 l2 l3 v h; exact tb_M_sitterAt_2 X F d hd D E (g_M_sitterAt_2 F D n) ih l1 l2 l3 v h
def g_M_sitterAt (F : Nat) (D : mx_D) (a1 : Int32) (a2 : Int32) : Option (Int32) := (g_M_sitterAt_2 F D F a1 a2 (nI 0))
set_option maxRecDepth 100000 in
set_option maxHeartbeats 4000000 in
theorem t_M_sitterAt (X : ev_X) (F : Nat) (d : Nat) (hd : 1 ≤ d + 1) (D : mx_D) (E : mx_E) (a1 : Int32) (a2 : Int32) (v : Int32) (h : g_M_sitterAt F D a1 a2 = some v) : ev X (d + 1) 221 (0, [some (.ref 116), some (.int a1), some (.int a2), none], [], D, E) (qR (some (.int v)) D E) := by
  have hq : kq_m 221 = some kq_q221 := rfl
  unfold g_M_sitterAt at h
  refine gv_n hq 2 (S' := (2, [some (.ref 116), some (.int a1), some (.int a2), some (.int (nI 0))], [], D, E)) rfl ?_
  exact gv_w (t_M_sitterAt_2 X F d hd D E F _ _ _ _ h) (And.intro rfl (And.intro rfl (And.intro rfl (And.intro rfl trivial))))
def g_M_who (F : Nat) (D : mx_D) (a1 : Int32) (a2 : Int32) : Option (Int32) := (if (g_M_isPlace D ((a1).toInt64) ((a2).toInt64)) = 0 then (some (-2 : Int32)) else (Option.bind (g_M_sitterAt F D a1 a2) (fun r1 => (some r1))))
set_option maxRecDepth 100000 in
set_option maxHeartbeats 4000000 in
theorem t_M_who (X : ev_X) (F : Nat) (d : Nat) (hd : 3 ≤ d + 1) (D : mx_D) (E : mx_E) (a1 : Int32) (a2 : Int32) (v : Int32) (h : g_M_who F D a1 a2 = some v) : ev X (d + 1) 220 (0, [some (.ref 116), some (.int a1), some (.int a2)], [], D, E) (qR (some (.int v)) D E) := by
  have hq : kq_m 220 = some kq_q220 := rfl
  unfold g_M_who at h
  refine gv_n hq 5 (S' := (5, [some (.ref 116), some (.int a1), some (.int a2)], [.long ((a2).toInt64), .long ((a1).toInt64), .ref 116], D, E)) rfl ?_
  refine gv_d hq rfl rfl rfl rfl rfl (gv_dd (by omega) (t_M_isPlace X (d - 1) (by omega) D E _ _ _ rfl)) (S' := (8, [some (.ref 116), some (.int a1), some (.int a2)], [.int (g_M_isPlace D ((a1).toInt64) ((a2).toInt64))], D, E)) rfl ?_
  refine gv_b hq rfl h 20 11 rfl rfl rfl (fun h => ?_) (fun h => ?_)
  · refine gv_n hq 1 (S' := (22, [some (.ref 116), some (.int a1), some (.int a2)], [.int (-2 : Int32)], D, E)) rfl ?_
    cases h
    exact ev_ret hq rfl rfl ⟨rfl, rfl, rfl⟩
  · refine gv_n hq 3 (S' := (14, [some (.ref 116), some (.int a1), some (.int a2)], [.int a2, .int a1, .ref 116], D, E)) rfl ?_
    obtain ⟨r1, h1, h⟩ := Option.bind_eq_some_iff.mp h
    refine gv_d hq rfl rfl rfl rfl rfl (gv_dd (by omega) (t_M_sitterAt X F (d - 1) (by omega) D E _ _ _ h1)) (S' := (17, [some (.ref 116), some (.int a1), some (.int a2)], [.int r1], D, E)) rfl ?_
    refine gv_n hq 1 (S' := (22, [some (.ref 116), some (.int a1), some (.int a2)], [.int r1], D, E)) rfl ?_
    cases h
    exact ev_ret hq rfl rfl ⟨rfl, rfl, rfl⟩
def b_Church_booksUnder_4 (F : Nat) (D : mx_D) (k4 : Int32 → Int32 → Int32 → Option (Int32)) (l1 : Int32) (l2 : Int32) (l3 : Int32) : Option (Int32) := (if (D 19 12) ≤ l3 then (some l2) else (rk 5 l3 (if (D 33 (l3).toNatClampNeg) = l1 then (k4 l1 (l2 ||| ((nI 1) <<< (l3 &&& 31))) (l3 + (nI 1))) else (k4 l1 l2 (l3 + (nI 1))))))
set_option maxRecDepth 100000 in
set_option maxHeartbeats 4000000 in
theorem tb_Church_booksUnder_4 (X : ev_X) (F : Nat) (d : Nat) (D : mx_D) (E : mx_E) (k4 : Int32 → Int32 → Int32 → Option (Int32)) (K4 : ∀ (l1 : Int32) (l2 : Int32) (l3 : Int32) (v : Int32), k4 l1 l2 l3 = some v → ev X d 19 (4, [some (.ref 19), some (.int l1), some (.int l2), some (.int l3)], [], D, E) (qR (some (.int v)) D E)) (l1 : Int32) (l2 : Int32) (l3 : Int32) (v : Int32) (h : b_Church_booksUnder_4 F D k4 l1 l2 l3 = some v) : ev X d 19 (4, [some (.ref 19), some (.int l1), some (.int l2), some (.int l3)], [], D, E) (qR (some (.int v)) D E) := by
  have hq : kq_m 19 = some kq_q19 := rfl
  unfold b_Church_booksUnder_4 at h
  refine gv_n hq 3 (S' := (9, [some (.ref 19), some (.int l1), some (.int l2), some (.int l3)], [.int (D 19 12), .int l3], D, E)) rfl ?_
  refine gv_b hq rfl h 34 12 rfl rfl rfl (fun h => ?_) (fun h => ?_)
  · refine gv_n hq 1 (S' := (35, [some (.ref 19), some (.int l1), some (.int l2), some (.int l3)], [.int l2], D, E)) rfl ?_
    cases h
    exact ev_ret hq rfl rfl ⟨rfl, rfl, rfl⟩
  · refine gv_n hq 3 (S' := (17, [some (.ref 19), some (.int l1), some (.int l2), some (.int l3)], [.int l3, .ref 33], D, E)) rfl ?_
    refine gv_ia hq rfl rfl rfl h 18 rfl (fun h => ?_)
    refine gv_n hq 1 (S' := (19, [some (.ref 19), some (.int l1), some (.int l2), some (.int l3)], [.int l1, .int (D 33 (l3).toNatClampNeg)], D, E)) rfl ?_
    refine gv_b hq rfl h 22 28 rfl rfl rfl (fun h => ?_) (fun h => ?_)
    · refine gv_n hq 8 (S' := (4, [some (.ref 19), some (.int l1), some (.int (l2 ||| ((nI 1) <<< (l3 &&& 31)))), some (.int (l3 + (nI 1)))], [], D, E)) rfl ?_
      exact gv_w (K4 _ _ _ _ h) (And.intro rfl (And.intro rfl (And.intro rfl (And.intro rfl trivial))))
    · refine gv_n hq 2 (S' := (4, [some (.ref 19), some (.int l1), some (.int l2), some (.int (l3 + (nI 1)))], [], D, E)) rfl ?_
      exact gv_w (K4 _ _ _ _ h) (And.intro rfl (And.intro rfl (And.intro rfl (And.intro rfl trivial))))
def g_Church_booksUnder_4 (F : Nat) (D : mx_D) : Nat → Int32 → Int32 → Int32 → Option (Int32) := it (fun k4 => b_Church_booksUnder_4 F D k4) (fun _ _ _ => none)
set_option maxRecDepth 100000 in
set_option maxHeartbeats 4000000 in
theorem t_Church_booksUnder_4 (X : ev_X) (F : Nat) (d : Nat) (D : mx_D) (E : mx_E)  : ∀ (n : Nat) (l1 : Int32) (l2 : Int32) (l3 : Int32) (v : Int32), g_Church_booksUnder_4 F D n l1 l2 l3 = some v → ev X d 19 (4, [some (.ref 19), some (.int l1), some (.int l2), some (.int l3)], [], D, E) (qR (some (.int v)) D E) := by
  intro n
  induction n with
  | zero => intro l1 l2 l3 v h; cases h
  | succ n ih => intro l1 l2 l3 v h; exact tb_Church_booksUnder_4 X F d D E (g_Church_booksUnder_4 F D n) ih l1 l2 l3 v h
def g_Church_booksUnder (F : Nat) (D : mx_D) (a1 : Int32) : Option (Int32) := (g_Church_booksUnder_4 F D F a1 (nI 0) (nI 0))
set_option maxRecDepth 100000 in
set_option maxHeartbeats 4000000 in
theorem t_Church_booksUnder (X : ev_X) (F : Nat) (d : Nat) (D : mx_D) (E : mx_E) (a1 : Int32) (v : Int32) (h : g_Church_booksUnder F D a1 = some v) : ev X d 19 (0, [some (.ref 19), some (.int a1), none, none], [], D, E) (qR (some (.int v)) D E) := by
  have hq : kq_m 19 = some kq_q19 := rfl
  unfold g_Church_booksUnder at h
  refine gv_n hq 4 (S' := (4, [some (.ref 19), some (.int a1), some (.int (nI 0)), some (.int (nI 0))], [], D, E)) rfl ?_
  exact gv_w (t_Church_booksUnder_4 X F d D E F _ _ _ _ h) (And.intro rfl (And.intro rfl (And.intro rfl (And.intro rfl trivial))))
def g_X_person (F : Nat) (D : mx_D) (a1 : Int32) (a2 : Int32) : Option (Int32) := (if (g_Church_hasPerson D a1) = 0 then (some (-2 : Int32)) else (if a2 = (nI 0) then (rk 8 a1 (some (D 25 (a1).toNatClampNeg))) else (if a2 = (nI 1) then (rk 8 a1 (some (D 26 (a1).toNatClampNeg))) else (if a2 = (nI 2) then (rk 8 a1 (some (D 27 (a1).toNatClampNeg))) else (if a2 = (nI 3) then (rk 8 a1 (some (D 28 (a1).toNatClampNeg))) else (if a2 = (nI 4) then (rk 8 a1 (some (D 29 (a1).toNatClampNeg))) else (if a2 = (nI 5) then (rk 8 a1 (some (D 30 (a1).toNatClampNeg))) else (if a2 = (nI 6) then (Option.bind (g_Church_booksUnder F D a1) (fun r1 => (some r1))) else (some (-2 : Int32))))))))))
set_option maxRecDepth 100000 in
set_option maxHeartbeats 4000000 in
theorem t_X_person (X : ev_X) (F : Nat) (d : Nat) (hd : 1 ≤ d + 1) (D : mx_D) (E : mx_E) (a1 : Int32) (a2 : Int32) (v : Int32) (h : g_X_person F D a1 a2 = some v) : ev X (d + 1) 112 (0, [some (.ref 0), some (.int a1), some (.int a2), none], [], D, E) (qR (some (.int v)) D E) := by
  have hq : kq_m 112 = some kq_q112 := rfl
  unfold g_X_person at h
  refine gv_n hq 3 (S' := (5, [some (.ref 0), some (.int a1), some (.int a2), none], [.int a1, .ref 19], D, E)) rfl ?_
  refine gv_d hq rfl rfl rfl rfl rfl ((t_Church_hasPerson X d D E _ _ rfl)) (S' := (8, [some (.ref 0), some (.int a1), some (.int a2), none], [.int (g_Church_hasPerson D a1)], D, E)) rfl ?_
  refine gv_b hq rfl h 11 14 rfl rfl rfl (fun h => ?_) (fun h => ?_)
  · refine gv_n hq 1 (S' := (13, [some (.ref 0), some (.int a1), some (.int a2), none], [.int (-2 : Int32)], D, E)) rfl ?_
    cases h
    exact ev_ret hq rfl rfl ⟨rfl, rfl, rfl⟩
  · refine gv_n hq 5 (S' := (23, [some (.ref 0), some (.int a1), some (.int a2), some (.ref 24)], [.int a2], D, E)) rfl ?_
    refine gv_if h (fun c0 h => ?_) (fun c0 h => ?_)
    · refine ev_ins hq rfl (S' := (64, [some (.ref 0), some (.int a1), some (.int a2), some (.ref 24)], [], D, E)) (gv_sw (fun z => ((23, [some (.ref 0), some (.int a1), some (.int a2), some (.ref 24)], .int z :: [], D, E) : mx_S)) c0 rfl) ?_
      refine gv_n hq 3 (S' := (69, [some (.ref 0), some (.int a1), some (.int a2), some (.ref 24)], [.int a1, .ref 25], D, E)) rfl ?_
      refine gv_ia hq rfl rfl rfl h 70 rfl (fun h => ?_)
      cases h
      exact ev_ret hq rfl rfl ⟨rfl, rfl, rfl⟩
    refine gv_if h (fun c1 h => ?_) (fun c1 h => ?_)
    · refine ev_ins hq rfl (S' := (71, [some (.ref 0), some (.int a1), some (.int a2), some (.ref 24)], [], D, E)) (gv_sw (fun z => ((23, [some (.ref 0), some (.int a1), some (.int a2), some (.ref 24)], .int z :: [], D, E) : mx_S)) c1 rfl) ?_
      refine gv_n hq 3 (S' := (76, [some (.ref 0), some (.int a1), some (.int a2), some (.ref 24)], [.int a1, .ref 26], D, E)) rfl ?_
      refine gv_ia hq rfl rfl rfl h 77 rfl (fun h => ?_)
      cases h
      exact ev_ret hq rfl rfl ⟨rfl, rfl, rfl⟩
    refine gv_if h (fun c2 h => ?_) (fun c2 h => ?_)
    · refine ev_ins hq rfl (S' := (78, [some (.ref 0), some (.int a1), some (.int a2), some (.ref 24)], [], D, E)) (gv_sw (fun z => ((23, [some (.ref 0), some (.int a1), some (.int a2), some (.ref 24)], .int z :: [], D, E) : mx_S)) c2 rfl) ?_
      refine gv_n hq 3 (S' := (83, [some (.ref 0), some (.int a1), some (.int a2), some (.ref 24)], [.int a1, .ref 27], D, E)) rfl ?_
      refine gv_ia hq rfl rfl rfl h 84 rfl (fun h => ?_)
      cases h
      exact ev_ret hq rfl rfl ⟨rfl, rfl, rfl⟩
    refine gv_if h (fun c3 h => ?_) (fun c3 h => ?_)
    · refine ev_ins hq rfl (S' := (85, [some (.ref 0), some (.int a1), some (.int a2), some (.ref 24)], [], D, E)) (gv_sw (fun z => ((23, [some (.ref 0), some (.int a1), some (.int a2), some (.ref 24)], .int z :: [], D, E) : mx_S)) c3 rfl) ?_
      refine gv_n hq 3 (S' := (90, [some (.ref 0), some (.int a1), some (.int a2), some (.ref 24)], [.int a1, .ref 28], D, E)) rfl ?_
      refine gv_ia hq rfl rfl rfl h 91 rfl (fun h => ?_)
      cases h
      exact ev_ret hq rfl rfl ⟨rfl, rfl, rfl⟩
    refine gv_if h (fun c4 h => ?_) (fun c4 h => ?_)
    · refine ev_ins hq rfl (S' := (92, [some (.ref 0), some (.int a1), some (.int a2), some (.ref 24)], [], D, E)) (gv_sw (fun z => ((23, [some (.ref 0), some (.int a1), some (.int a2), some (.ref 24)], .int z :: [], D, E) : mx_S)) c4 rfl) ?_
      refine gv_n hq 3 (S' := (97, [some (.ref 0), some (.int a1), some (.int a2), some (.ref 24)], [.int a1, .ref 29], D, E)) rfl ?_
      refine gv_ia hq rfl rfl rfl h 98 rfl (fun h => ?_)
      cases h
      exact ev_ret hq rfl rfl ⟨rfl, rfl, rfl⟩
    refine gv_if h (fun c5 h => ?_) (fun c5 h => ?_)
    · refine ev_ins hq rfl (S' := (99, [some (.ref 0), some (.int a1), some (.int a2), some (.ref 24)], [], D, E)) (gv_sw (fun z => ((23, [some (.ref 0), some (.int a1), some (.int a2), some (.ref 24)], .int z :: [], D, E) : mx_S)) c5 rfl) ?_
      refine gv_n hq 3 (S' := (104, [some (.ref 0), some (.int a1), some (.int a2), some (.ref 24)], [.int a1, .ref 30], D, E)) rfl ?_
      refine gv_ia hq rfl rfl rfl h 105 rfl (fun h => ?_)
      cases h
      exact ev_ret hq rfl rfl ⟨rfl, rfl, rfl⟩
    refine gv_if h (fun c6 h => ?_) (fun c6 h => ?_)
    · refine ev_ins hq rfl (S' := (106, [some (.ref 0), some (.int a1), some (.int a2), some (.ref 24)], [], D, E)) (gv_sw (fun z => ((23, [some (.ref 0), some (.int a1), some (.int a2), some (.ref 24)], .int z :: [], D, E) : mx_S)) c6 rfl) ?_
      refine gv_n hq 3 (S' := (111, [some (.ref 0), some (.int a1), some (.int a2), some (.ref 24)], [.int a1, .ref 19], D, E)) rfl ?_
      obtain ⟨r1, h1, h⟩ := Option.bind_eq_some_iff.mp h
      refine gv_d hq rfl rfl rfl rfl rfl ((t_Church_booksUnder X F d D E _ _ h1)) (S' := (114, [some (.ref 0), some (.int a1), some (.int a2), some (.ref 24)], [.int r1], D, E)) rfl ?_
      cases h
      exact ev_ret hq rfl rfl ⟨rfl, rfl, rfl⟩
    refine ev_ins hq rfl (S' := (115, [some (.ref 0), some (.int a1), some (.int a2), some (.ref 24)], [], D, E)) (gv_swd (x := a2) (n := 7) (fun z => ((23, [some (.ref 0), some (.int a1), some (.int a2), some (.ref 24)], .int z :: [], D, E) : mx_S)) ⟨⟨⟨⟨⟨⟨⟨trivial, c0⟩, c1⟩, c2⟩, c3⟩, c4⟩, c5⟩, c6⟩ (m := 6) rfl rfl rfl) ?_
    refine gv_n hq 1 (S' := (117, [some (.ref 0), some (.int a1), some (.int a2), some (.ref 24)], [.int (-2 : Int32)], D, E)) rfl ?_
    cases h
    exact ev_ret hq rfl rfl ⟨rfl, rfl, rfl⟩
def g_M_isPerson (D : mx_D) (a1 : Int32) : Int32 := (g_M_in ((a1).toInt64) (lN 0) ((((D 117 4) - (nI 1))).toInt64))
set_option maxRecDepth 100000 in
set_option maxHeartbeats 4000000 in
theorem t_M_isPerson (X : ev_X) (d : Nat) (hd : 1 ≤ d + 1) (D : mx_D) (E : mx_E) (a1 : Int32) (v : Int32) (h : g_M_isPerson D a1 = v) : ev X (d + 1) 223 (0, [some (.ref 116), some (.int a1)], [], D, E) (qR (some (.int v)) D E) := by
  have hq : kq_m 223 = some kq_q223 := rfl
  unfold g_M_isPerson at h
  refine gv_n hq 10 (S' := (12, [some (.ref 116), some (.int a1)], [.long ((((D 117 4) - (nI 1))).toInt64), .long (lN 0), .long ((a1).toInt64)], D, E)) rfl ?_
  refine gv_d hq rfl rfl rfl rfl rfl ((t_M_in X d D E _ _ _ _ rfl)) (S' := (15, [some (.ref 116), some (.int a1)], [.int (g_M_in ((a1).toInt64) (lN 0) ((((D 117 4) - (nI 1))).toInt64))], D, E)) rfl ?_
  subst h
  exact ev_rz hq rfl rfl rfl (z_M_in ..) ⟨rfl, rfl, rfl⟩
theorem z_M_isPerson (D : mx_D) (a1 : Int32) : g_M_isPerson D a1 = 0 ∨ g_M_isPerson D a1 = 1 := by
  unfold g_M_isPerson
  (repeat' split) <;> first | exact Or.inl rfl | exact Or.inr rfl | exact z_M_in ..
def g_M_standsOn (D : mx_D) (a1 : Int32) : Option (Int32) := (rk 106 (((nI 96) + ((nI 2) * a1)) + (nI 1)) (some (D 117 ((((nI 96) + ((nI 2) * a1)) + (nI 1))).toNatClampNeg)))
set_option maxRecDepth 100000 in
set_option maxHeartbeats 4000000 in
theorem t_M_standsOn (X : ev_X) (d : Nat) (D : mx_D) (E : mx_E) (a1 : Int32) (v : Int32) (h : g_M_standsOn D a1 = some v) : ev X d 224 (0, [some (.ref 116), some (.int a1)], [], D, E) (qR (some (.int v)) D E) := by
  have hq : kq_m 224 = some kq_q224 := rfl
  unfold g_M_standsOn at h
  refine gv_n hq 9 (S' := (12, [some (.ref 116), some (.int a1)], [.int (((nI 96) + ((nI 2) * a1)) + (nI 1)), .ref 117], D, E)) rfl ?_
  refine gv_ia hq rfl rfl rfl h 13 rfl (fun h => ?_)
  cases h
  exact ev_ret hq rfl rfl ⟨rfl, rfl, rfl⟩
def b_M_person_41 (F : Nat) (D : mx_D) (k41 : Int32 → Int32 → Int32 → Option (Int32)) (l1 : Int32) (l3 : Int32) (l4 : Int32) : Option (Int32) := (if (D 117 6) ≤ l4 then (some l3) else (Option.bind (g_M_standsOn D l4) (fun r1 => (if r1 = l1 then (k41 l1 (l3 ||| ((nI 1) <<< (l4 &&& 31))) (l4 + (nI 1))) else (k41 l1 (l3 ||| (nI 0)) (l4 + (nI 1)))))))
set_option maxRecDepth 100000 in
set_option maxHeartbeats 4000000 in
theorem tb_M_person_41 (X : ev_X) (F : Nat) (d : Nat) (hd : 2 ≤ d + 1) (D : mx_D) (E : mx_E) (k41 : Int32 → Int32 → Int32 → Option (Int32)) (K41 : ∀ (l1 : Int32) (l3 : Int32) (l4 : Int32) (v : Int32), k41 l1 l3 l4 = some v → ev X (d + 1) 222 (41, [some (.ref 116), some (.int l1), none, some (.int l3), some (.int l4)], [], D, E) (qR (some (.int v)) D E)) (l1 : Int32) (l3 : Int32) (l4 : Int32) (v : Int32) (h : b_M_person_41 F D k41 l1 l3 l4 = some v) : ev X (d + 1) 222 (41, [some (.ref 116), some (.int l1), none, some (.int l3), some (.int l4)], [], D, E) (qR (some (.int v)) D E) := by
  have hq : kq_m 222 = some kq_q222 := rfl
  unfold b_M_person_41 at h
  refine gv_n hq 5 (S' := (50, [some (.ref 116), some (.int l1), none, some (.int l3), some (.int l4)], [.int (D 117 6), .int l4], D, E)) rfl ?_
  refine gv_b hq rfl h 80 53 rfl rfl rfl (fun h => ?_) (fun h => ?_)
  · refine gv_n hq 1 (S' := (81, [some (.ref 116), some (.int l1), none, some (.int l3), some (.int l4)], [.int l3], D, E)) rfl ?_
    cases h
    exact ev_ret hq rfl rfl ⟨rfl, rfl, rfl⟩
  · refine gv_n hq 3 (S' := (57, [some (.ref 116), some (.int l1), none, some (.int l3), some (.int l4)], [.int l4, .ref 116, .int l3], D, E)) rfl ?_
    obtain ⟨r1, h1, h⟩ := Option.bind_eq_some_iff.mp h
    refine gv_d hq rfl rfl rfl rfl rfl ((t_M_standsOn X d D E _ _ h1)) (S' := (60, [some (.ref 116), some (.int l1), none, some (.int l3), some (.int l4)], [.int r1, .int l3], D, E)) rfl ?_
    refine gv_n hq 1 (S' := (61, [some (.ref 116), some (.int l1), none, some (.int l3), some (.int l4)], [.int l1, .int r1, .int l3], D, E)) rfl ?_
    refine gv_b hq rfl h 64 71 rfl rfl rfl (fun h => ?_) (fun h => ?_)
    · refine gv_n hq 8 (S' := (41, [some (.ref 116), some (.int l1), none, some (.int (l3 ||| ((nI 1) <<< (l4 &&& 31)))), some (.int (l4 + (nI 1)))], [], D, E)) rfl ?_
      exact gv_w (K41 _ _ _ _ h) (And.intro rfl (And.intro rfl (And.intro rfl (And.intro rfl trivial))))
    · refine gv_n hq 5 (S' := (41, [some (.ref 116), some (.int l1), none, some (.int (l3 ||| (nI 0))), some (.int (l4 + (nI 1)))], [], D, E)) rfl ?_
      exact gv_w (K41 _ _ _ _ h) (And.intro rfl (And.intro rfl (And.intro rfl (And.intro rfl trivial))))
def g_M_person_41 (F : Nat) (D : mx_D) : Nat → Int32 → Int32 → Int32 → Option (Int32) := it (fun k41 => b_M_person_41 F D k41) (fun _ _ _ => none)
set_option maxRecDepth 100000 in
set_option maxHeartbeats 4000000 in
theorem t_M_person_41 (X : ev_X) (F : Nat) (d : Nat) (hd : 2 ≤ d + 1) (D : mx_D) (E : mx_E)  : ∀ (n : Nat) (l1 : Int32) (l3 : Int32) (l4 : Int32) (v : Int32), g_M_person_41 F D n l1 l3 l4 = some v → ev X (d + 1) 222 (41, [some (.ref 116), some (.int l1), none, some (.int l3), some (.int l4)], [], D, E) (qR (some (.int v)) D E) := by
  intro n
  induction n with
  | zero => intro l1 l3 l4 v h; cases h
  | succ n ih => intro l1 l3 l4 v h; exact tb_M_person_41 X F d hd D E (g_M_person_41 F D n) ih l1 l3 l4 v h
def g_M_person (F : Nat) (D : mx_D) (a1 : Int32) (a2 : Int32) : Option (Int32) := (if (g_M_isPerson D a1) = 0 then (some (-2 : Int32)) else (if (g_M_in ((a2).toInt64) (lN 0) (6 : Int64)) = 0 then (some (-2 : Int32)) else (if (nI 6) ≤ a2 then (g_M_person_41 F D F a1 (nI 0) (nI 0)) else (Option.bind (g_M_of D a1 a2) (fun r2 => (some r2))))))
set_option maxRecDepth 100000 in
set_option maxHeartbeats 4000000 in
theorem t_M_person (X : ev_X) (F : Nat) (d : Nat) (hd : 2 ≤ d + 1) (D : mx_D) (E : mx_E) (a1 : Int32) (a2 : Int32) (v : Int32) (h : g_M_person F D a1 a2 = some v) : ev X (d + 1) 222 (0, [some (.ref 116), some (.int a1), some (.int a2), none, none], [], D, E) (qR (some (.int v)) D E) := by
  have hq : kq_m 222 = some kq_q222 := rfl
  unfold g_M_person at h
  refine gv_n hq 2 (S' := (2, [some (.ref 116), some (.int a1), some (.int a2), none, none], [.int a1, .ref 116], D, E)) rfl ?_
  refine gv_d hq rfl rfl rfl rfl rfl (gv_dd (by omega) (t_M_isPerson X (d - 1) (by omega) D E _ _ rfl)) (S' := (5, [some (.ref 116), some (.int a1), some (.int a2), none, none], [.int (g_M_isPerson D a1)], D, E)) rfl ?_
  refine gv_b hq rfl h 20 8 rfl rfl rfl (fun h => ?_) (fun h => ?_)
  · refine gv_n hq 1 (S' := (22, [some (.ref 116), some (.int a1), some (.int a2), none, none], [.int (-2 : Int32)], D, E)) rfl ?_
    cases h
    exact ev_ret hq rfl rfl ⟨rfl, rfl, rfl⟩
  · refine gv_n hq 4 (S' := (14, [some (.ref 116), some (.int a1), some (.int a2), none, none], [.long (6 : Int64), .long (lN 0), .long ((a2).toInt64)], D, E)) rfl ?_
    refine gv_d hq rfl rfl rfl rfl rfl ((t_M_in X d D E _ _ _ _ rfl)) (S' := (17, [some (.ref 116), some (.int a1), some (.int a2), none, none], [.int (g_M_in ((a2).toInt64) (lN 0) (6 : Int64))], D, E)) rfl ?_
    refine gv_b hq rfl h 20 23 rfl rfl rfl (fun h => ?_) (fun h => ?_)
    · refine gv_n hq 1 (S' := (22, [some (.ref 116), some (.int a1), some (.int a2), none, none], [.int (-2 : Int32)], D, E)) rfl ?_
      cases h
      exact ev_ret hq rfl rfl ⟨rfl, rfl, rfl⟩
    · refine gv_n hq 2 (S' := (26, [some (.ref 116), some (.int a1), some (.int a2), none, none], [.int (nI 6), .int a2], D, E)) rfl ?_
      refine gv_b hq rfl h 36 29 rfl rfl rfl (fun h => ?_) (fun h => ?_)
      · refine gv_n hq 4 (S' := (41, [some (.ref 116), some (.int a1), some (.int a2), some (.int (nI 0)), some (.int (nI 0))], [], D, E)) rfl ?_
        exact gv_w (t_M_person_41 X F d hd D E F _ _ _ _ h) (And.intro rfl (And.intro rfl (And.intro rfl (And.intro rfl trivial))))
      · refine gv_n hq 3 (S' := (32, [some (.ref 116), some (.int a1), some (.int a2), none, none], [.int a2, .int a1, .ref 116], D, E)) rfl ?_
        obtain ⟨r2, h1, h⟩ := Option.bind_eq_some_iff.mp h
        refine gv_d hq rfl rfl rfl rfl rfl ((t_M_of X d D E _ _ _ h1)) (S' := (35, [some (.ref 116), some (.int a1), some (.int a2), none, none], [.int r2], D, E)) rfl ?_
        cases h
        exact ev_ret hq rfl rfl ⟨rfl, rfl, rfl⟩
def g_Church_hasHat (D : mx_D) (a1 : Int32) : Int32 := (if a1 < 0 then (nI 0) else (if (D 19 10) ≤ a1 then (nI 0) else (nI 1)))
set_option maxRecDepth 100000 in
set_option maxHeartbeats 4000000 in
theorem t_Church_hasHat (X : ev_X) (d : Nat) (D : mx_D) (E : mx_E) (a1 : Int32) (v : Int32) (h : g_Church_hasHat D a1 = v) : ev X d 20 (0, [some (.ref 19), some (.int a1)], [], D, E) (qR (some (.int v)) D E) := by
  have hq : kq_m 20 = some kq_q20 := rfl
  unfold g_Church_hasHat at h
  refine gv_n hq 1 (S' := (1, [some (.ref 19), some (.int a1)], [.int a1], D, E)) rfl ?_
  refine gv_b hq rfl h 16 4 rfl rfl rfl (fun h => ?_) (fun h => ?_)
  · refine gv_n hq 1 (S' := (17, [some (.ref 19), some (.int a1)], [.int (nI 0)], D, E)) rfl ?_
    subst h
    exact ev_ret hq rfl rfl ⟨rfl, rfl, rfl⟩
  · refine gv_n hq 3 (S' := (9, [some (.ref 19), some (.int a1)], [.int (D 19 10), .int a1], D, E)) rfl ?_
    refine gv_b hq rfl h 16 12 rfl rfl rfl (fun h => ?_) (fun h => ?_)
    · refine gv_n hq 1 (S' := (17, [some (.ref 19), some (.int a1)], [.int (nI 0)], D, E)) rfl ?_
      subst h
      exact ev_ret hq rfl rfl ⟨rfl, rfl, rfl⟩
    · refine gv_n hq 2 (S' := (17, [some (.ref 19), some (.int a1)], [.int (nI 1)], D, E)) rfl ?_
      subst h
      exact ev_ret hq rfl rfl ⟨rfl, rfl, rfl⟩
theorem z_Church_hasHat (D : mx_D) (a1 : Int32) : g_Church_hasHat D a1 = 0 ∨ g_Church_hasHat D a1 = 1 := by
  unfold g_Church_hasHat
  (repeat' split) <;> first | exact Or.inl rfl | exact Or.inr rfl
def g_Church_hasBook (D : mx_D) (a1 : Int32) : Int32 := (if a1 < 0 then (nI 0) else (if (D 19 12) ≤ a1 then (nI 0) else (nI 1)))
set_option maxRecDepth 100000 in
set_option maxHeartbeats 4000000 in
theorem t_Church_hasBook (X : ev_X) (d : Nat) (D : mx_D) (E : mx_E) (a1 : Int32) (v : Int32) (h : g_Church_hasBook D a1 = v) : ev X d 21 (0, [some (.ref 19), some (.int a1)], [], D, E) (qR (some (.int v)) D E) := by
  have hq : kq_m 21 = some kq_q21 := rfl
  unfold g_Church_hasBook at h
  refine gv_n hq 1 (S' := (1, [some (.ref 19), some (.int a1)], [.int a1], D, E)) rfl ?_
  refine gv_b hq rfl h 16 4 rfl rfl rfl (fun h => ?_) (fun h => ?_)
  · refine gv_n hq 1 (S' := (17, [some (.ref 19), some (.int a1)], [.int (nI 0)], D, E)) rfl ?_
    subst h
    exact ev_ret hq rfl rfl ⟨rfl, rfl, rfl⟩
  · refine gv_n hq 3 (S' := (9, [some (.ref 19), some (.int a1)], [.int (D 19 12), .int a1], D, E)) rfl ?_
    refine gv_b hq rfl h 16 12 rfl rfl rfl (fun h => ?_) (fun h => ?_)
    · refine gv_n hq 1 (S' := (17, [some (.ref 19), some (.int a1)], [.int (nI 0)], D, E)) rfl ?_
      subst h
      exact ev_ret hq rfl rfl ⟨rfl, rfl, rfl⟩
    · refine gv_n hq 2 (S' := (17, [some (.ref 19), some (.int a1)], [.int (nI 1)], D, E)) rfl ?_
      subst h
      exact ev_ret hq rfl rfl ⟨rfl, rfl, rfl⟩
theorem z_Church_hasBook (D : mx_D) (a1 : Int32) : g_Church_hasBook D a1 = 0 ∨ g_Church_hasBook D a1 = 1 := by
  unfold g_Church_hasBook
  (repeat' split) <;> first | exact Or.inl rfl | exact Or.inr rfl
def b_X_thing_25 (D : mx_D) (l1 : Int32) (l2 : Int32) : Option (Int32) := (if l1 = (nI 1) then (if (g_Church_hasBook D l2) = 0 then (some (-2 : Int32)) else (rk 5 l2 (some (D 32 (l2).toNatClampNeg)))) else (some (-2 : Int32)))
set_option maxRecDepth 100000 in
set_option maxHeartbeats 4000000 in
theorem tb_X_thing_25 (X : ev_X) (d : Nat) (hd : 1 ≤ d + 1) (D : mx_D) (E : mx_E)  (l1 : Int32) (l2 : Int32) (v : Int32) (h : b_X_thing_25 D l1 l2 = some v) : ev X (d + 1) 113 (25, [some (.ref 0), some (.int l1), some (.int l2)], [], D, E) (qR (some (.int v)) D E) := by
  have hq : kq_m 113 = some kq_q113 := rfl
  unfold b_X_thing_25 at h
  refine gv_n hq 2 (S' := (27, [some (.ref 0), some (.int l1), some (.int l2)], [.int (nI 1), .int l1], D, E)) rfl ?_
  refine gv_b hq rfl h 30 53 rfl rfl rfl (fun h => ?_) (fun h => ?_)
  · refine gv_n hq 3 (S' := (35, [some (.ref 0), some (.int l1), some (.int l2)], [.int l2, .ref 19], D, E)) rfl ?_
    refine gv_d hq rfl rfl rfl rfl rfl ((t_Church_hasBook X d D E _ _ rfl)) (S' := (38, [some (.ref 0), some (.int l1), some (.int l2)], [.int (g_Church_hasBook D l2)], D, E)) rfl ?_
    refine gv_b hq rfl h 53 41 rfl rfl rfl (fun h => ?_) (fun h => ?_)
    · refine gv_n hq 1 (S' := (55, [some (.ref 0), some (.int l1), some (.int l2)], [.int (-2 : Int32)], D, E)) rfl ?_
      cases h
      exact ev_ret hq rfl rfl ⟨rfl, rfl, rfl⟩
    · refine gv_n hq 4 (S' := (49, [some (.ref 0), some (.int l1), some (.int l2)], [.int l2, .ref 32], D, E)) rfl ?_
      refine gv_ia hq rfl rfl rfl h 50 rfl (fun h => ?_)
      refine gv_n hq 1 (S' := (55, [some (.ref 0), some (.int l1), some (.int l2)], [.int (D 32 (l2).toNatClampNeg)], D, E)) rfl ?_
      cases h
      exact ev_ret hq rfl rfl ⟨rfl, rfl, rfl⟩
  · refine gv_n hq 1 (S' := (55, [some (.ref 0), some (.int l1), some (.int l2)], [.int (-2 : Int32)], D, E)) rfl ?_
    cases h
    exact ev_ret hq rfl rfl ⟨rfl, rfl, rfl⟩
def g_X_thing (D : mx_D) (a1 : Int32) (a2 : Int32) : Option (Int32) := (if a1 = 0 then (if (g_Church_hasHat D a2) = 0 then (b_X_thing_25 D a1 a2) else (rk 8 a2 (some (D 31 (a2).toNatClampNeg)))) else (b_X_thing_25 D a1 a2))
set_option maxRecDepth 100000 in
set_option maxHeartbeats 4000000 in
theorem t_X_thing (X : ev_X) (d : Nat) (hd : 1 ≤ d + 1) (D : mx_D) (E : mx_E) (a1 : Int32) (a2 : Int32) (v : Int32) (h : g_X_thing D a1 a2 = some v) : ev X (d + 1) 113 (0, [some (.ref 0), some (.int a1), some (.int a2)], [], D, E) (qR (some (.int v)) D E) := by
  have hq : kq_m 113 = some kq_q113 := rfl
  unfold g_X_thing at h
  refine gv_n hq 1 (S' := (1, [some (.ref 0), some (.int a1), some (.int a2)], [.int a1], D, E)) rfl ?_
  refine gv_b hq rfl h 4 25 rfl rfl rfl (fun h => ?_) (fun h => ?_)
  · refine gv_n hq 3 (S' := (9, [some (.ref 0), some (.int a1), some (.int a2)], [.int a2, .ref 19], D, E)) rfl ?_
    refine gv_d hq rfl rfl rfl rfl rfl ((t_Church_hasHat X d D E _ _ rfl)) (S' := (12, [some (.ref 0), some (.int a1), some (.int a2)], [.int (g_Church_hasHat D a2)], D, E)) rfl ?_
    refine gv_b hq rfl h 25 15 rfl rfl rfl (fun h => ?_) (fun h => ?_)
    · exact gv_w (tb_X_thing_25 X d hd D E _ _ _ h) (And.intro rfl (And.intro rfl (And.intro rfl trivial)))
    · refine gv_n hq 4 (S' := (23, [some (.ref 0), some (.int a1), some (.int a2)], [.int a2, .ref 31], D, E)) rfl ?_
      refine gv_ia hq rfl rfl rfl h 24 rfl (fun h => ?_)
      cases h
      exact ev_ret hq rfl rfl ⟨rfl, rfl, rfl⟩
  · exact gv_w (tb_X_thing_25 X d hd D E _ _ _ h) (And.intro rfl (And.intro rfl (And.intro rfl trivial)))
def g_M_isHat (D : mx_D) (a1 : Int32) : Int32 := (g_M_in ((a1).toInt64) (lN 0) ((((D 117 5) - (nI 1))).toInt64))
set_option maxRecDepth 100000 in
set_option maxHeartbeats 4000000 in
theorem t_M_isHat (X : ev_X) (d : Nat) (hd : 1 ≤ d + 1) (D : mx_D) (E : mx_E) (a1 : Int32) (v : Int32) (h : g_M_isHat D a1 = v) : ev X (d + 1) 226 (0, [some (.ref 116), some (.int a1)], [], D, E) (qR (some (.int v)) D E) := by
  have hq : kq_m 226 = some kq_q226 := rfl
  unfold g_M_isHat at h
  refine gv_n hq 10 (S' := (12, [some (.ref 116), some (.int a1)], [.long ((((D 117 5) - (nI 1))).toInt64), .long (lN 0), .long ((a1).toInt64)], D, E)) rfl ?_
  refine gv_d hq rfl rfl rfl rfl rfl ((t_M_in X d D E _ _ _ _ rfl)) (S' := (15, [some (.ref 116), some (.int a1)], [.int (g_M_in ((a1).toInt64) (lN 0) ((((D 117 5) - (nI 1))).toInt64))], D, E)) rfl ?_
  subst h
  exact ev_rz hq rfl rfl rfl (z_M_in ..) ⟨rfl, rfl, rfl⟩
theorem z_M_isHat (D : mx_D) (a1 : Int32) : g_M_isHat D a1 = 0 ∨ g_M_isHat D a1 = 1 := by
  unfold g_M_isHat
  (repeat' split) <;> first | exact Or.inl rfl | exact Or.inr rfl | exact z_M_in ..
def g_M_isBook (D : mx_D) (a1 : Int32) : Int32 := (g_M_in ((a1).toInt64) (lN 0) ((((D 117 6) - (nI 1))).toInt64))
set_option maxRecDepth 100000 in
set_option maxHeartbeats 4000000 in
theorem t_M_isBook (X : ev_X) (d : Nat) (hd : 1 ≤ d + 1) (D : mx_D) (E : mx_E) (a1 : Int32) (v : Int32) (h : g_M_isBook D a1 = v) : ev X (d + 1) 227 (0, [some (.ref 116), some (.int a1)], [], D, E) (qR (some (.int v)) D E) := by
  have hq : kq_m 227 = some kq_q227 := rfl
  unfold g_M_isBook at h
  refine gv_n hq 10 (S' := (13, [some (.ref 116), some (.int a1)], [.long ((((D 117 6) - (nI 1))).toInt64), .long (lN 0), .long ((a1).toInt64)], D, E)) rfl ?_
  refine gv_d hq rfl rfl rfl rfl rfl ((t_M_in X d D E _ _ _ _ rfl)) (S' := (16, [some (.ref 116), some (.int a1)], [.int (g_M_in ((a1).toInt64) (lN 0) ((((D 117 6) - (nI 1))).toInt64))], D, E)) rfl ?_
  subst h
  exact ev_rz hq rfl rfl rfl (z_M_in ..) ⟨rfl, rfl, rfl⟩
theorem z_M_isBook (D : mx_D) (a1 : Int32) : g_M_isBook D a1 = 0 ∨ g_M_isBook D a1 = 1 := by
  unfold g_M_isBook
  (repeat' split) <;> first | exact Or.inl rfl | exact Or.inr rfl | exact z_M_in ..
def b_M_thing_24 (D : mx_D) (l1 : Int32) (l2 : Int32) : Option (Int32) := (if l1 = (nI 1) then (if (g_M_isBook D l2) = 0 then (some (-2 : Int32)) else (rk 106 ((nI 96) + ((nI 2) * l2)) (some (D 117 (((nI 96) + ((nI 2) * l2))).toNatClampNeg)))) else (some (-2 : Int32)))
set_option maxRecDepth 100000 in
set_option maxHeartbeats 4000000 in
theorem tb_M_thing_24 (X : ev_X) (d : Nat) (hd : 2 ≤ d + 1) (D : mx_D) (E : mx_E)  (l1 : Int32) (l2 : Int32) (v : Int32) (h : b_M_thing_24 D l1 l2 = some v) : ev X (d + 1) 225 (24, [some (.ref 116), some (.int l1), some (.int l2)], [], D, E) (qR (some (.int v)) D E) := by
  have hq : kq_m 225 = some kq_q225 := rfl
  unfold b_M_thing_24 at h
  refine gv_n hq 2 (S' := (26, [some (.ref 116), some (.int l1), some (.int l2)], [.int (nI 1), .int l1], D, E)) rfl ?_
  refine gv_b hq rfl h 29 51 rfl rfl rfl (fun h => ?_) (fun h => ?_)
  · refine gv_n hq 2 (S' := (31, [some (.ref 116), some (.int l1), some (.int l2)], [.int l2, .ref 116], D, E)) rfl ?_
    refine gv_d hq rfl rfl rfl rfl rfl (gv_dd (by omega) (t_M_isBook X (d - 1) (by omega) D E _ _ rfl)) (S' := (34, [some (.ref 116), some (.int l1), some (.int l2)], [.int (g_M_isBook D l2)], D, E)) rfl ?_
    refine gv_b hq rfl h 51 37 rfl rfl rfl (fun h => ?_) (fun h => ?_)
    · refine gv_n hq 1 (S' := (53, [some (.ref 116), some (.int l1), some (.int l2)], [.int (-2 : Int32)], D, E)) rfl ?_
      cases h
      exact ev_ret hq rfl rfl ⟨rfl, rfl, rfl⟩
    · refine gv_n hq 7 (S' := (47, [some (.ref 116), some (.int l1), some (.int l2)], [.int ((nI 96) + ((nI 2) * l2)), .ref 117], D, E)) rfl ?_
      refine gv_ia hq rfl rfl rfl h 48 rfl (fun h => ?_)
      refine gv_n hq 1 (S' := (53, [some (.ref 116), some (.int l1), some (.int l2)], [.int (D 117 (((nI 96) + ((nI 2) * l2))).toNatClampNeg)], D, E)) rfl ?_
      cases h
      exact ev_ret hq rfl rfl ⟨rfl, rfl, rfl⟩
  · refine gv_n hq 1 (S' := (53, [some (.ref 116), some (.int l1), some (.int l2)], [.int (-2 : Int32)], D, E)) rfl ?_
    cases h
    exact ev_ret hq rfl rfl ⟨rfl, rfl, rfl⟩
def g_M_thing (D : mx_D) (a1 : Int32) (a2 : Int32) : Option (Int32) := (if a1 = 0 then (if (g_M_isHat D a2) = 0 then (b_M_thing_24 D a1 a2) else (rk 106 ((nI 88) + a2) (some (D 117 (((nI 88) + a2)).toNatClampNeg)))) else (b_M_thing_24 D a1 a2))
set_option maxRecDepth 100000 in
set_option maxHeartbeats 4000000 in
theorem t_M_thing (X : ev_X) (d : Nat) (hd : 2 ≤ d + 1) (D : mx_D) (E : mx_E) (a1 : Int32) (a2 : Int32) (v : Int32) (h : g_M_thing D a1 a2 = some v) : ev X (d + 1) 225 (0, [some (.ref 116), some (.int a1), some (.int a2)], [], D, E) (qR (some (.int v)) D E) := by
  have hq : kq_m 225 = some kq_q225 := rfl
  unfold g_M_thing at h
  refine gv_n hq 1 (S' := (1, [some (.ref 116), some (.int a1), some (.int a2)], [.int a1], D, E)) rfl ?_
  refine gv_b hq rfl h 4 24 rfl rfl rfl (fun h => ?_) (fun h => ?_)
  · refine gv_n hq 2 (S' := (6, [some (.ref 116), some (.int a1), some (.int a2)], [.int a2, .ref 116], D, E)) rfl ?_
    refine gv_d hq rfl rfl rfl rfl rfl (gv_dd (by omega) (t_M_isHat X (d - 1) (by omega) D E _ _ rfl)) (S' := (9, [some (.ref 116), some (.int a1), some (.int a2)], [.int (g_M_isHat D a2)], D, E)) rfl ?_
    refine gv_b hq rfl h 24 12 rfl rfl rfl (fun h => ?_) (fun h => ?_)
    · exact gv_w (tb_M_thing_24 X d hd D E _ _ _ h) (And.intro rfl (And.intro rfl (And.intro rfl trivial)))
    · refine gv_n hq 5 (S' := (20, [some (.ref 116), some (.int a1), some (.int a2)], [.int ((nI 88) + a2), .ref 117], D, E)) rfl ?_
      refine gv_ia hq rfl rfl rfl h 21 rfl (fun h => ?_)
      refine gv_n hq 1 (S' := (53, [some (.ref 116), some (.int a1), some (.int a2)], [.int (D 117 (((nI 88) + a2)).toNatClampNeg)], D, E)) rfl ?_
      cases h
      exact ev_ret hq rfl rfl ⟨rfl, rfl, rfl⟩
  · exact gv_w (tb_M_thing_24 X d hd D E _ _ _ h) (And.intro rfl (And.intro rfl (And.intro rfl trivial)))
def g_X_isYear (a0 : Int32) : Int32 := (if a0 < 0 then (nI 0) else (if (nI 30) < a0 then (nI 0) else (nI 1)))
set_option maxRecDepth 100000 in
set_option maxHeartbeats 4000000 in
theorem t_X_isYear (X : ev_X) (d : Nat) (D : mx_D) (E : mx_E) (a0 : Int32) (v : Int32) (h : g_X_isYear a0 = v) : ev X d 117 (0, [some (.int a0)], [], D, E) (qR (some (.int v)) D E) := by
  have hq : kq_m 117 = some kq_q117 := rfl
  unfold g_X_isYear at h
  refine gv_n hq 1 (S' := (1, [some (.int a0)], [.int a0], D, E)) rfl ?_
  refine gv_b hq rfl h 14 4 rfl rfl rfl (fun h => ?_) (fun h => ?_)
  · refine gv_n hq 1 (S' := (15, [some (.int a0)], [.int (nI 0)], D, E)) rfl ?_
    subst h
    exact ev_ret hq rfl rfl ⟨rfl, rfl, rfl⟩
  · refine gv_n hq 2 (S' := (7, [some (.int a0)], [.int (nI 30), .int a0], D, E)) rfl ?_
    refine gv_b hq rfl h 14 10 rfl rfl rfl (fun h => ?_) (fun h => ?_)
    · refine gv_n hq 1 (S' := (15, [some (.int a0)], [.int (nI 0)], D, E)) rfl ?_
      subst h
      exact ev_ret hq rfl rfl ⟨rfl, rfl, rfl⟩
    · refine gv_n hq 2 (S' := (15, [some (.int a0)], [.int (nI 1)], D, E)) rfl ?_
      subst h
      exact ev_ret hq rfl rfl ⟨rfl, rfl, rfl⟩
theorem z_X_isYear (a0 : Int32) : g_X_isYear a0 = 0 ∨ g_X_isYear a0 = 1 := by
  unfold g_X_isYear
  (repeat' split) <;> first | exact Or.inl rfl | exact Or.inr rfl
def g_Church_bodyHigh (D : mx_D) (a1 : Int32) (a2 : Int32) : Option (Int32) := (if (g_Church_hasPerson D a1) = 0 then (some (nI 0)) else (rk 8 a1 (rk 8 a1 (rk 8 a1 (some (((D 25 (a1).toNatClampNeg) + (a2 * (D 26 (a1).toNatClampNeg))) + (D 27 (a1).toNatClampNeg)))))))
set_option maxRecDepth 100000 in
set_option maxHeartbeats 4000000 in
theorem t_Church_bodyHigh (X : ev_X) (d : Nat) (hd : 1 ≤ d + 1) (D : mx_D) (E : mx_E) (a1 : Int32) (a2 : Int32) (v : Int32) (h : g_Church_bodyHigh D a1 a2 = some v) : ev X (d + 1) 26 (0, [some (.ref 19), some (.int a1), some (.int a2)], [], D, E) (qR (some (.int v)) D E) := by
  have hq : kq_m 26 = some kq_q26 := rfl
  unfold g_Church_bodyHigh at h
  refine gv_n hq 2 (S' := (2, [some (.ref 19), some (.int a1), some (.int a2)], [.int a1, .ref 19], D, E)) rfl ?_
  refine gv_d hq rfl rfl rfl rfl rfl ((t_Church_hasPerson X d D E _ _ rfl)) (S' := (5, [some (.ref 19), some (.int a1), some (.int a2)], [.int (g_Church_hasPerson D a1)], D, E)) rfl ?_
  refine gv_b hq rfl h 8 10 rfl rfl rfl (fun h => ?_) (fun h => ?_)
  · refine gv_n hq 1 (S' := (9, [some (.ref 19), some (.int a1), some (.int a2)], [.int (nI 0)], D, E)) rfl ?_
    cases h
    exact ev_ret hq rfl rfl ⟨rfl, rfl, rfl⟩
  · refine gv_n hq 4 (S' := (18, [some (.ref 19), some (.int a1), some (.int a2)], [.int a1, .ref 25], D, E)) rfl ?_
    refine gv_ia hq rfl rfl rfl h 19 rfl (fun h => ?_)
    refine gv_n hq 5 (S' := (28, [some (.ref 19), some (.int a1), some (.int a2)], [.int a1, .ref 26, .int a2, .int (D 25 (a1).toNatClampNeg)], D, E)) rfl ?_
    refine gv_ia hq rfl rfl rfl h 29 rfl (fun h => ?_)
    refine gv_n hq 6 (S' := (39, [some (.ref 19), some (.int a1), some (.int a2)], [.int a1, .ref 27, .int ((D 25 (a1).toNatClampNeg) + (a2 * (D 26 (a1).toNatClampNeg)))], D, E)) rfl ?_
    refine gv_ia hq rfl rfl rfl h 40 rfl (fun h => ?_)
    refine gv_n hq 1 (S' := (41, [some (.ref 19), some (.int a1), some (.int a2)], [.int (((D 25 (a1).toNatClampNeg) + (a2 * (D 26 (a1).toNatClampNeg))) + (D 27 (a1).toNatClampNeg))], D, E)) rfl ?_
    cases h
    exact ev_ret hq rfl rfl ⟨rfl, rfl, rfl⟩
def g_Church_hatHighOf (D : mx_D) (a1 : Int32) : Option (Int32) := (if (g_Church_hasPerson D a1) = 0 then (some (nI 0)) else (rk 8 a1 (if (g_Church_hasHat D (D 30 (a1).toNatClampNeg)) = 0 then (some (nI 0)) else (rk 8 a1 (rk 8 (D 30 (a1).toNatClampNeg) (some (D 31 ((D 30 (a1).toNatClampNeg)).toNatClampNeg)))))))
set_option maxRecDepth 100000 in
set_option maxHeartbeats 4000000 in
theorem t_Church_hatHighOf (X : ev_X) (d : Nat) (hd : 1 ≤ d + 1) (D : mx_D) (E : mx_E) (a1 : Int32) (v : Int32) (h : g_Church_hatHighOf D a1 = some v) : ev X (d + 1) 27 (0, [some (.ref 19), some (.int a1)], [], D, E) (qR (some (.int v)) D E) := by
  have hq : kq_m 27 = some kq_q27 := rfl
  unfold g_Church_hatHighOf at h
  refine gv_n hq 2 (S' := (2, [some (.ref 19), some (.int a1)], [.int a1, .ref 19], D, E)) rfl ?_
  refine gv_d hq rfl rfl rfl rfl rfl ((t_Church_hasPerson X d D E _ _ rfl)) (S' := (5, [some (.ref 19), some (.int a1)], [.int (g_Church_hasPerson D a1)], D, E)) rfl ?_
  refine gv_b hq rfl h 41 8 rfl rfl rfl (fun h => ?_) (fun h => ?_)
  · refine gv_n hq 1 (S' := (42, [some (.ref 19), some (.int a1)], [.int (nI 0)], D, E)) rfl ?_
    cases h
    exact ev_ret hq rfl rfl ⟨rfl, rfl, rfl⟩
  · refine gv_n hq 5 (S' := (17, [some (.ref 19), some (.int a1)], [.int a1, .ref 30, .ref 19], D, E)) rfl ?_
    refine gv_ia hq rfl rfl rfl h 18 rfl (fun h => ?_)
    refine gv_d hq rfl rfl rfl rfl rfl ((t_Church_hasHat X d D E _ _ rfl)) (S' := (21, [some (.ref 19), some (.int a1)], [.int (g_Church_hasHat D (D 30 (a1).toNatClampNeg))], D, E)) rfl ?_
    refine gv_b hq rfl h 41 24 rfl rfl rfl (fun h => ?_) (fun h => ?_)
    · refine gv_n hq 1 (S' := (42, [some (.ref 19), some (.int a1)], [.int (nI 0)], D, E)) rfl ?_
      cases h
      exact ev_ret hq rfl rfl ⟨rfl, rfl, rfl⟩
    · refine gv_n hq 6 (S' := (36, [some (.ref 19), some (.int a1)], [.int a1, .ref 30, .ref 31], D, E)) rfl ?_
      refine gv_ia hq rfl rfl rfl h 37 rfl (fun h => ?_)
      refine gv_ia hq rfl rfl rfl h 38 rfl (fun h => ?_)
      refine gv_n hq 1 (S' := (42, [some (.ref 19), some (.int a1)], [.int (D 31 ((D 30 (a1).toNatClampNeg)).toNatClampNeg)], D, E)) rfl ?_
      cases h
      exact ev_ret hq rfl rfl ⟨rfl, rfl, rfl⟩
def b_Church_bookHighUnder_4 (F : Nat) (D : mx_D) (k4 : Int32 → Int32 → Int32 → Option (Int32)) (l1 : Int32) (l2 : Int32) (l3 : Int32) : Option (Int32) := (if (D 19 12) ≤ l3 then (some l2) else (rk 5 l3 (if (D 33 (l3).toNatClampNeg) = l1 then (rk 5 l3 (k4 l1 (l2 + (D 32 (l3).toNatClampNeg)) (l3 + (nI 1)))) else (k4 l1 l2 (l3 + (nI 1))))))
set_option maxRecDepth 100000 in
set_option maxHeartbeats 4000000 in
theorem tb_Church_bookHighUnder_4 (X : ev_X) (F : Nat) (d : Nat) (D : mx_D) (E : mx_E) (k4 : Int32 → Int32 → Int32 → Option (Int32)) (K4 : ∀ (l1 : Int32) (l2 : Int32) (l3 : Int32) (v : Int32), k4 l1 l2 l3 = some v → ev X d 28 (4, [some (.ref 19), some (.int l1), some (.int l2), some (.int l3)], [], D, E) (qR (some (.int v)) D E)) (l1 : Int32) (l2 : Int32) (l3 : Int32) (v : Int32) (h : b_Church_bookHighUnder_4 F D k4 l1 l2 l3 = some v) : ev X d 28 (4, [some (.ref 19), some (.int l1), some (.int l2), some (.int l3)], [], D, E) (qR (some (.int v)) D E) := by
  have hq : kq_m 28 = some kq_q28 := rfl
  unfold b_Church_bookHighUnder_4 at h
  refine gv_n hq 3 (S' := (9, [some (.ref 19), some (.int l1), some (.int l2), some (.int l3)], [.int (D 19 12), .int l3], D, E)) rfl ?_
  refine gv_b hq rfl h 37 12 rfl rfl rfl (fun h => ?_) (fun h => ?_)
  · refine gv_n hq 1 (S' := (38, [some (.ref 19), some (.int l1), some (.int l2), some (.int l3)], [.int l2], D, E)) rfl ?_
    cases h
    exact ev_ret hq rfl rfl ⟨rfl, rfl, rfl⟩
  · refine gv_n hq 3 (S' := (17, [some (.ref 19), some (.int l1), some (.int l2), some (.int l3)], [.int l3, .ref 33], D, E)) rfl ?_
    refine gv_ia hq rfl rfl rfl h 18 rfl (fun h => ?_)
    refine gv_n hq 1 (S' := (19, [some (.ref 19), some (.int l1), some (.int l2), some (.int l3)], [.int l1, .int (D 33 (l3).toNatClampNeg)], D, E)) rfl ?_
    refine gv_b hq rfl h 22 31 rfl rfl rfl (fun h => ?_) (fun h => ?_)
    · refine gv_n hq 4 (S' := (28, [some (.ref 19), some (.int l1), some (.int l2), some (.int l3)], [.int l3, .ref 32, .int l2], D, E)) rfl ?_
      refine gv_ia hq rfl rfl rfl h 29 rfl (fun h => ?_)
      refine gv_n hq 4 (S' := (4, [some (.ref 19), some (.int l1), some (.int (l2 + (D 32 (l3).toNatClampNeg))), some (.int (l3 + (nI 1)))], [], D, E)) rfl ?_
      exact gv_w (K4 _ _ _ _ h) (And.intro rfl (And.intro rfl (And.intro rfl (And.intro rfl trivial))))
    · refine gv_n hq 2 (S' := (4, [some (.ref 19), some (.int l1), some (.int l2), some (.int (l3 + (nI 1)))], [], D, E)) rfl ?_
      exact gv_w (K4 _ _ _ _ h) (And.intro rfl (And.intro rfl (And.intro rfl (And.intro rfl trivial))))
def g_Church_bookHighUnder_4 (F : Nat) (D : mx_D) : Nat → Int32 → Int32 → Int32 → Option (Int32) := it (fun k4 => b_Church_bookHighUnder_4 F D k4) (fun _ _ _ => none)
set_option maxRecDepth 100000 in
set_option maxHeartbeats 4000000 in
theorem t_Church_bookHighUnder_4 (X : ev_X) (F : Nat) (d : Nat) (D : mx_D) (E : mx_E)  : ∀ (n : Nat) (l1 : Int32) (l2 : Int32) (l3 : Int32) (v : Int32), g_Church_bookHighUnder_4 F D n l1 l2 l3 = some v → ev X d 28 (4, [some (.ref 19), some (.int l1), some (.int l2), some (.int l3)], [], D, E) (qR (some (.int v)) D E) := by
  intro n
  induction n with
  | zero => intro l1 l2 l3 v h; cases h
  | succ n ih => intro l1 l2 l3 v h; exact tb_Church_bookHighUnder_4 X F d D E (g_Church_bookHighUnder_4 F D n) ih l1 l2 l3 v h
def g_Church_bookHighUnder (F : Nat) (D : mx_D) (a1 : Int32) : Option (Int32) := (g_Church_bookHighUnder_4 F D F a1 (nI 0) (nI 0))
set_option maxRecDepth 100000 in
set_option maxHeartbeats 4000000 in
theorem t_Church_bookHighUnder (X : ev_X) (F : Nat) (d : Nat) (D : mx_D) (E : mx_E) (a1 : Int32) (v : Int32) (h : g_Church_bookHighUnder F D a1 = some v) : ev X d 28 (0, [some (.ref 19), some (.int a1), none, none], [], D, E) (qR (some (.int v)) D E) := by
  have hq : kq_m 28 = some kq_q28 := rfl
  unfold g_Church_bookHighUnder at h
  refine gv_n hq 4 (S' := (4, [some (.ref 19), some (.int a1), some (.int (nI 0)), some (.int (nI 0))], [], D, E)) rfl ?_
  exact gv_w (t_Church_bookHighUnder_4 X F d D E F _ _ _ _ h) (And.intro rfl (And.intro rfl (And.intro rfl (And.intro rfl trivial))))
def g_Church_standingHigh (F : Nat) (D : mx_D) (a1 : Int32) (a2 : Int32) : Option (Int32) := (Option.bind (g_Church_bodyHigh D a1 a2) (fun r1 => (Option.bind (g_Church_hatHighOf D a1) (fun r2 => (Option.bind (g_Church_bookHighUnder F D a1) (fun r3 => (some ((r1 + r2) + r3))))))))
set_option maxRecDepth 100000 in
set_option maxHeartbeats 4000000 in
theorem t_Church_standingHigh (X : ev_X) (F : Nat) (d : Nat) (hd : 2 ≤ d + 1) (D : mx_D) (E : mx_E) (a1 : Int32) (a2 : Int32) (v : Int32) (h : g_Church_standingHigh F D a1 a2 = some v) : ev X (d + 1) 25 (0, [some (.ref 19), some (.int a1), some (.int a2)], [], D, E) (qR (some (.int v)) D E) := by
  have hq : kq_m 25 = some kq_q25 := rfl
  unfold g_Church_standingHigh at h
  refine gv_n hq 3 (S' := (3, [some (.ref 19), some (.int a1), some (.int a2)], [.int a2, .int a1, .ref 19], D, E)) rfl ?_
  obtain ⟨r1, h1, h⟩ := Option.bind_eq_some_iff.mp h
  refine gv_d hq rfl rfl rfl rfl rfl (gv_dd (by omega) (t_Church_bodyHigh X (d - 1) (by omega) D E _ _ _ h1)) (S' := (6, [some (.ref 19), some (.int a1), some (.int a2)], [.int r1], D, E)) rfl ?_
  refine gv_n hq 2 (S' := (8, [some (.ref 19), some (.int a1), some (.int a2)], [.int a1, .ref 19, .int r1], D, E)) rfl ?_
  obtain ⟨r2, h1, h⟩ := Option.bind_eq_some_iff.mp h
  refine gv_d hq rfl rfl rfl rfl rfl (gv_dd (by omega) (t_Church_hatHighOf X (d - 1) (by omega) D E _ _ h1)) (S' := (11, [some (.ref 19), some (.int a1), some (.int a2)], [.int r2, .int r1], D, E)) rfl ?_
  refine gv_n hq 3 (S' := (14, [some (.ref 19), some (.int a1), some (.int a2)], [.int a1, .ref 19, .int (r1 + r2)], D, E)) rfl ?_
  obtain ⟨r3, h1, h⟩ := Option.bind_eq_some_iff.mp h
  refine gv_d hq rfl rfl rfl rfl rfl ((t_Church_bookHighUnder X F d D E _ _ h1)) (S' := (17, [some (.ref 19), some (.int a1), some (.int a2)], [.int r3, .int (r1 + r2)], D, E)) rfl ?_
  refine gv_n hq 1 (S' := (18, [some (.ref 19), some (.int a1), some (.int a2)], [.int ((r1 + r2) + r3)], D, E)) rfl ?_
  cases h
  exact ev_ret hq rfl rfl ⟨rfl, rfl, rfl⟩
def g_Church_floorUnder (D : mx_D) (a1 : Int32) : Option (Int32) := (Option.bind (g_Church_isSeated D a1) (fun r1 => (if r1 = 0 then (some (nI 0)) else (rk 8 a1 (rk 8 a1 (Option.bind (g_Church_floorAt D (D 28 (a1).toNatClampNeg) (D 29 (a1).toNatClampNeg)) (fun r2 => (some r2))))))))
set_option maxRecDepth 100000 in
set_option maxHeartbeats 4000000 in
theorem t_Church_floorUnder (X : ev_X) (d : Nat) (hd : 2 ≤ d + 1) (D : mx_D) (E : mx_E) (a1 : Int32) (v : Int32) (h : g_Church_floorUnder D a1 = some v) : ev X (d + 1) 29 (0, [some (.ref 19), some (.int a1)], [], D, E) (qR (some (.int v)) D E) := by
  have hq : kq_m 29 = some kq_q29 := rfl
  unfold g_Church_floorUnder at h
  refine gv_n hq 2 (S' := (2, [some (.ref 19), some (.int a1)], [.int a1, .ref 19], D, E)) rfl ?_
  obtain ⟨r1, h1, h⟩ := Option.bind_eq_some_iff.mp h
  refine gv_d hq rfl rfl rfl rfl rfl (gv_dd (by omega) (t_Church_isSeated X (d - 1) (by omega) D E _ _ h1)) (S' := (5, [some (.ref 19), some (.int a1)], [.int r1], D, E)) rfl ?_
  refine gv_b hq rfl h 33 8 rfl rfl rfl (fun h => ?_) (fun h => ?_)
  · refine gv_n hq 1 (S' := (34, [some (.ref 19), some (.int a1)], [.int (nI 0)], D, E)) rfl ?_
    cases h
    exact ev_ret hq rfl rfl ⟨rfl, rfl, rfl⟩
  · refine gv_n hq 5 (S' := (17, [some (.ref 19), some (.int a1)], [.int a1, .ref 28, .ref 19], D, E)) rfl ?_
    refine gv_ia hq rfl rfl rfl h 18 rfl (fun h => ?_)
    refine gv_n hq 4 (S' := (26, [some (.ref 19), some (.int a1)], [.int a1, .ref 29, .int (D 28 (a1).toNatClampNeg), .ref 19], D, E)) rfl ?_
    refine gv_ia hq rfl rfl rfl h 27 rfl (fun h => ?_)
    obtain ⟨r2, h1, h⟩ := Option.bind_eq_some_iff.mp h
    refine gv_d hq rfl rfl rfl rfl rfl (gv_dd (by omega) (t_Church_floorAt X (d - 1) (by omega) D E _ _ _ h1)) (S' := (30, [some (.ref 19), some (.int a1)], [.int r2], D, E)) rfl ?_
    refine gv_n hq 1 (S' := (34, [some (.ref 19), some (.int a1)], [.int r2], D, E)) rfl ?_
    cases h
    exact ev_ret hq rfl rfl ⟨rfl, rfl, rfl⟩
def g_Church_highOf (F : Nat) (D : mx_D) (a1 : Int32) (a2 : Int32) : Option (Int32) := (Option.bind (g_Church_standingHigh F D a1 a2) (fun r1 => (Option.bind (g_Church_floorUnder D a1) (fun r2 => (some (r1 + r2))))))
set_option maxRecDepth 100000 in
set_option maxHeartbeats 4000000 in
theorem t_Church_highOf (X : ev_X) (F : Nat) (d : Nat) (hd : 3 ≤ d + 1) (D : mx_D) (E : mx_E) (a1 : Int32) (a2 : Int32) (v : Int32) (h : g_Church_highOf F D a1 a2 = some v) : ev X (d + 1) 24 (0, [some (.ref 19), some (.int a1), some (.int a2)], [], D, E) (qR (some (.int v)) D E) := by
  have hq : kq_m 24 = some kq_q24 := rfl
  unfold g_Church_highOf at h
  refine gv_n hq 3 (S' := (3, [some (.ref 19), some (.int a1), some (.int a2)], [.int a2, .int a1, .ref 19], D, E)) rfl ?_
  obtain ⟨r1, h1, h⟩ := Option.bind_eq_some_iff.mp h
  refine gv_d hq rfl rfl rfl rfl rfl (gv_dd (by omega) (t_Church_standingHigh X F (d - 1) (by omega) D E _ _ _ h1)) (S' := (6, [some (.ref 19), some (.int a1), some (.int a2)], [.int r1], D, E)) rfl ?_
  refine gv_n hq 2 (S' := (8, [some (.ref 19), some (.int a1), some (.int a2)], [.int a1, .ref 19, .int r1], D, E)) rfl ?_
  obtain ⟨r2, h1, h⟩ := Option.bind_eq_some_iff.mp h
  refine gv_d hq rfl rfl rfl rfl rfl (gv_dd (by omega) (t_Church_floorUnder X (d - 1) (by omega) D E _ _ h1)) (S' := (11, [some (.ref 19), some (.int a1), some (.int a2)], [.int r2, .int r1], D, E)) rfl ?_
  refine gv_n hq 1 (S' := (12, [some (.ref 19), some (.int a1), some (.int a2)], [.int (r1 + r2)], D, E)) rfl ?_
  cases h
  exact ev_ret hq rfl rfl ⟨rfl, rfl, rfl⟩
def g_X_high (F : Nat) (D : mx_D) (a1 : Int32) (a2 : Int32) : Option (Int32) := (if (g_Church_hasPerson D a1) = 0 then (some (-1000 : Int32)) else (if (g_X_isYear a2) = 0 then (some (-1000 : Int32)) else (Option.bind (g_Church_highOf F D a1 a2) (fun r1 => (some r1)))))
set_option maxRecDepth 100000 in
set_option maxHeartbeats 4000000 in
theorem t_X_high (X : ev_X) (F : Nat) (d : Nat) (hd : 4 ≤ d + 1) (D : mx_D) (E : mx_E) (a1 : Int32) (a2 : Int32) (v : Int32) (h : g_X_high F D a1 a2 = some v) : ev X (d + 1) 116 (0, [some (.ref 0), some (.int a1), some (.int a2)], [], D, E) (qR (some (.int v)) D E) := by
  have hq : kq_m 116 = some kq_q116 := rfl
  unfold g_X_high at h
  refine gv_n hq 3 (S' := (5, [some (.ref 0), some (.int a1), some (.int a2)], [.int a1, .ref 19], D, E)) rfl ?_
  refine gv_d hq rfl rfl rfl rfl rfl ((t_Church_hasPerson X d D E _ _ rfl)) (S' := (8, [some (.ref 0), some (.int a1), some (.int a2)], [.int (g_Church_hasPerson D a1)], D, E)) rfl ?_
  refine gv_b hq rfl h 30 11 rfl rfl rfl (fun h => ?_) (fun h => ?_)
  · refine gv_n hq 1 (S' := (33, [some (.ref 0), some (.int a1), some (.int a2)], [.int (-1000 : Int32)], D, E)) rfl ?_
    cases h
    exact ev_ret hq rfl rfl ⟨rfl, rfl, rfl⟩
  · refine gv_n hq 1 (S' := (12, [some (.ref 0), some (.int a1), some (.int a2)], [.int a2], D, E)) rfl ?_
    refine gv_d hq rfl rfl rfl rfl rfl ((t_X_isYear X d D E _ _ rfl)) (S' := (15, [some (.ref 0), some (.int a1), some (.int a2)], [.int (g_X_isYear a2)], D, E)) rfl ?_
    refine gv_b hq rfl h 30 18 rfl rfl rfl (fun h => ?_) (fun h => ?_)
    · refine gv_n hq 1 (S' := (33, [some (.ref 0), some (.int a1), some (.int a2)], [.int (-1000 : Int32)], D, E)) rfl ?_
      cases h
      exact ev_ret hq rfl rfl ⟨rfl, rfl, rfl⟩
    · refine gv_n hq 4 (S' := (24, [some (.ref 0), some (.int a1), some (.int a2)], [.int a2, .int a1, .ref 19], D, E)) rfl ?_
      obtain ⟨r1, h1, h⟩ := Option.bind_eq_some_iff.mp h
      refine gv_d hq rfl rfl rfl rfl rfl (gv_dd (by omega) (t_Church_highOf X F (d - 1) (by omega) D E _ _ _ h1)) (S' := (27, [some (.ref 0), some (.int a1), some (.int a2)], [.int r1], D, E)) rfl ?_
      refine gv_n hq 1 (S' := (33, [some (.ref 0), some (.int a1), some (.int a2)], [.int r1], D, E)) rfl ?_
      cases h
      exact ev_ret hq rfl rfl ⟨rfl, rfl, rfl⟩
def g_M_isChurch (D : mx_D) : Int32 := (if (D 117 0) ≤ 0 then (nI 0) else (nI 1))
set_option maxRecDepth 100000 in
set_option maxHeartbeats 4000000 in
theorem t_M_isChurch (X : ev_X) (d : Nat) (D : mx_D) (E : mx_E) (v : Int32) (h : g_M_isChurch D = v) : ev X d 230 (0, [some (.ref 116)], [], D, E) (qR (some (.int v)) D E) := by
  have hq : kq_m 230 = some kq_q230 := rfl
  unfold g_M_isChurch at h
  refine gv_n hq 4 (S' := (6, [some (.ref 116)], [.int (D 117 0)], D, E)) rfl ?_
  refine gv_b hq rfl h 13 9 rfl rfl rfl (fun h => ?_) (fun h => ?_)
  · refine gv_n hq 1 (S' := (14, [some (.ref 116)], [.int (nI 0)], D, E)) rfl ?_
    subst h
    exact ev_ret hq rfl rfl ⟨rfl, rfl, rfl⟩
  · refine gv_n hq 2 (S' := (14, [some (.ref 116)], [.int (nI 1)], D, E)) rfl ?_
    subst h
    exact ev_ret hq rfl rfl ⟨rfl, rfl, rfl⟩
theorem z_M_isChurch (D : mx_D) : g_M_isChurch D = 0 ∨ g_M_isChurch D = 1 := by
  unfold g_M_isChurch
  (repeat' split) <;> first | exact Or.inl rfl | exact Or.inr rfl
def g_M_isYear (D : mx_D) (a1 : Int32) : Int32 := (if (g_M_isChurch D) = 0 then (nI 0) else (if (g_M_in ((a1).toInt64) (lN 0) (30 : Int64)) = 0 then (nI 0) else (nI 1)))
set_option maxRecDepth 100000 in
set_option maxHeartbeats 4000000 in
theorem t_M_isYear (X : ev_X) (d : Nat) (hd : 1 ≤ d + 1) (D : mx_D) (E : mx_E) (a1 : Int32) (v : Int32) (h : g_M_isYear D a1 = v) : ev X (d + 1) 229 (0, [some (.ref 116), some (.int a1)], [], D, E) (qR (some (.int v)) D E) := by
  have hq : kq_m 229 = some kq_q229 := rfl
  unfold g_M_isYear at h
  refine gv_n hq 1 (S' := (1, [some (.ref 116), some (.int a1)], [.ref 116], D, E)) rfl ?_
  refine gv_d hq rfl rfl rfl rfl rfl ((t_M_isChurch X d D E _ rfl)) (S' := (4, [some (.ref 116), some (.int a1)], [.int (g_M_isChurch D)], D, E)) rfl ?_
  refine gv_b hq rfl h 23 7 rfl rfl rfl (fun h => ?_) (fun h => ?_)
  · refine gv_n hq 1 (S' := (24, [some (.ref 116), some (.int a1)], [.int (nI 0)], D, E)) rfl ?_
    subst h
    exact ev_ret hq rfl rfl ⟨rfl, rfl, rfl⟩
  · refine gv_n hq 4 (S' := (13, [some (.ref 116), some (.int a1)], [.long (30 : Int64), .long (lN 0), .long ((a1).toInt64)], D, E)) rfl ?_
    refine gv_d hq rfl rfl rfl rfl rfl ((t_M_in X d D E _ _ _ _ rfl)) (S' := (16, [some (.ref 116), some (.int a1)], [.int (g_M_in ((a1).toInt64) (lN 0) (30 : Int64))], D, E)) rfl ?_
    refine gv_b hq rfl h 23 19 rfl rfl rfl (fun h => ?_) (fun h => ?_)
    · refine gv_n hq 1 (S' := (24, [some (.ref 116), some (.int a1)], [.int (nI 0)], D, E)) rfl ?_
      subst h
      exact ev_ret hq rfl rfl ⟨rfl, rfl, rfl⟩
    · refine gv_n hq 2 (S' := (24, [some (.ref 116), some (.int a1)], [.int (nI 1)], D, E)) rfl ?_
      subst h
      exact ev_ret hq rfl rfl ⟨rfl, rfl, rfl⟩
theorem z_M_isYear (D : mx_D) (a1 : Int32) : g_M_isYear D a1 = 0 ∨ g_M_isYear D a1 = 1 := by
  unfold g_M_isYear
  (repeat' split) <;> first | exact Or.inl rfl | exact Or.inr rfl
def b_M_booksOf_4 (F : Nat) (D : mx_D) (k4 : Int32 → Int32 → Int32 → Option (Int32)) (l1 : Int32) (l2 : Int32) (l3 : Int32) : Option (Int32) := (if (D 117 6) ≤ l3 then (some l2) else (Option.bind (g_M_standsOn D l3) (fun r1 => (if r1 = l1 then (rk 106 ((nI 96) + ((nI 2) * l3)) (k4 l1 (l2 + (D 117 (((nI 96) + ((nI 2) * l3))).toNatClampNeg)) (l3 + (nI 1)))) else (k4 l1 (l2 + (nI 0)) (l3 + (nI 1)))))))
set_option maxRecDepth 100000 in
set_option maxHeartbeats 4000000 in
theorem tb_M_booksOf_4 (X : ev_X) (F : Nat) (d : Nat) (hd : 1 ≤ d + 1) (D : mx_D) (E : mx_E) (k4 : Int32 → Int32 → Int32 → Option (Int32)) (K4 : ∀ (l1 : Int32) (l2 : Int32) (l3 : Int32) (v : Int32), k4 l1 l2 l3 = some v → ev X (d + 1) 233 (4, [some (.ref 116), some (.int l1), some (.int l2), some (.int l3)], [], D, E) (qR (some (.int v)) D E)) (l1 : Int32) (l2 : Int32) (l3 : Int32) (v : Int32) (h : b_M_booksOf_4 F D k4 l1 l2 l3 = some v) : ev X (d + 1) 233 (4, [some (.ref 116), some (.int l1), some (.int l2), some (.int l3)], [], D, E) (qR (some (.int v)) D E) := by
  have hq : kq_m 233 = some kq_q233 := rfl
  unfold b_M_booksOf_4 at h
  refine gv_n hq 5 (S' := (12, [some (.ref 116), some (.int l1), some (.int l2), some (.int l3)], [.int (D 117 6), .int l3], D, E)) rfl ?_
  refine gv_b hq rfl h 48 15 rfl rfl rfl (fun h => ?_) (fun h => ?_)
  · refine gv_n hq 1 (S' := (49, [some (.ref 116), some (.int l1), some (.int l2), some (.int l3)], [.int l2], D, E)) rfl ?_
    cases h
    exact ev_ret hq rfl rfl ⟨rfl, rfl, rfl⟩
  · refine gv_n hq 3 (S' := (18, [some (.ref 116), some (.int l1), some (.int l2), some (.int l3)], [.int l3, .ref 116, .int l2], D, E)) rfl ?_
    obtain ⟨r1, h1, h⟩ := Option.bind_eq_some_iff.mp h
    refine gv_d hq rfl rfl rfl rfl rfl ((t_M_standsOn X d D E _ _ h1)) (S' := (21, [some (.ref 116), some (.int l1), some (.int l2), some (.int l3)], [.int r1, .int l2], D, E)) rfl ?_
    refine gv_n hq 1 (S' := (22, [some (.ref 116), some (.int l1), some (.int l2), some (.int l3)], [.int l1, .int r1, .int l2], D, E)) rfl ?_
    refine gv_b hq rfl h 25 39 rfl rfl rfl (fun h => ?_) (fun h => ?_)
    · refine gv_n hq 7 (S' := (35, [some (.ref 116), some (.int l1), some (.int l2), some (.int l3)], [.int ((nI 96) + ((nI 2) * l3)), .ref 117, .int l2], D, E)) rfl ?_
      refine gv_ia hq rfl rfl rfl h 36 rfl (fun h => ?_)
      refine gv_n hq 5 (S' := (4, [some (.ref 116), some (.int l1), some (.int (l2 + (D 117 (((nI 96) + ((nI 2) * l3))).toNatClampNeg))), some (.int (l3 + (nI 1)))], [], D, E)) rfl ?_
      exact gv_w (K4 _ _ _ _ h) (And.intro rfl (And.intro rfl (And.intro rfl (And.intro rfl trivial))))
    · refine gv_n hq 5 (S' := (4, [some (.ref 116), some (.int l1), some (.int (l2 + (nI 0))), some (.int (l3 + (nI 1)))], [], D, E)) rfl ?_
      exact gv_w (K4 _ _ _ _ h) (And.intro rfl (And.intro rfl (And.intro rfl (And.intro rfl trivial))))
def g_M_booksOf_4 (F : Nat) (D : mx_D) : Nat → Int32 → Int32 → Int32 → Option (Int32) := it (fun k4 => b_M_booksOf_4 F D k4) (fun _ _ _ => none)
set_option maxRecDepth 100000 in
set_option maxHeartbeats 4000000 in
theorem t_M_booksOf_4 (X : ev_X) (F : Nat) (d : Nat) (hd : 1 ≤ d + 1) (D : mx_D) (E : mx_E)  : ∀ (n : Nat) (l1 : Int32) (l2 : Int32) (l3 : Int32) (v : Int32), g_M_booksOf_4 F D n l1 l2 l3 = some v → ev X (d + 1) 233 (4, [some (.ref 116), some (.int l1), some (.int l2), some (.int l3)], [], D, E) (qR (some (.int v)) D E) := by
  intro n
  induction n with
  | zero => intro l1 l2 l3 v h; cases h
  | succ n ih => intro l1 l2 l3 v h; exact tb_M_booksOf_4 X F d hd D E (g_M_booksOf_4 F D n) ih l1 l2 l3 v h
def g_M_booksOf (F : Nat) (D : mx_D) (a1 : Int32) : Option (Int32) := (g_M_booksOf_4 F D F a1 (nI 0) (nI 0))
set_option maxRecDepth 100000 in
set_option maxHeartbeats 4000000 in
theorem t_M_booksOf (X : ev_X) (F : Nat) (d : Nat) (hd : 1 ≤ d + 1) (D : mx_D) (E : mx_E) (a1 : Int32) (v : Int32) (h : g_M_booksOf F D a1 = some v) : ev X (d + 1) 233 (0, [some (.ref 116), some (.int a1), none, none], [], D, E) (qR (some (.int v)) D E) := by
  have hq : kq_m 233 = some kq_q233 := rfl
  unfold g_M_booksOf at h
  refine gv_n hq 4 (S' := (4, [some (.ref 116), some (.int a1), some (.int (nI 0)), some (.int (nI 0))], [], D, E)) rfl ?_
  exact gv_w (t_M_booksOf_4 X F d hd D E F _ _ _ _ h) (And.intro rfl (And.intro rfl (And.intro rfl (And.intro rfl trivial))))
def b_M_bodyOf_28 (F : Nat) (D : mx_D) (l1 : Int32) (l2 : Int32) (s0 : Int32) : Option (Int32) := (Option.bind (g_M_of D l1 (nI 0)) (fun r2 => (Option.bind (g_M_of D l1 (nI 1)) (fun r3 => (Option.bind (g_M_of D l1 (nI 2)) (fun r4 => (Option.bind (g_M_booksOf F D l1) (fun r5 => (some ((((r2 + (l2 * r3)) + r4) + s0) + r5))))))))))
set_option maxRecDepth 100000 in
set_option maxHeartbeats 4000000 in
theorem tb_M_bodyOf_28 (X : ev_X) (F : Nat) (d : Nat) (hd : 2 ≤ d + 1) (D : mx_D) (E : mx_E)  (l1 : Int32) (l2 : Int32) (s0 : Int32) (v : Int32) (h : b_M_bodyOf_28 F D l1 l2 s0 = some v) : ev X (d + 1) 232 (28, [some (.ref 116), some (.int l1), some (.int l2), none], [.int s0], D, E) (qR (some (.int v)) D E) := by
  have hq : kq_m 232 = some kq_q232 := rfl
  unfold b_M_bodyOf_28 at h
  refine gv_n hq 4 (S' := (32, [some (.ref 116), some (.int l1), some (.int l2), some (.int s0)], [.int (nI 0), .int l1, .ref 116], D, E)) rfl ?_
  obtain ⟨r2, h1, h⟩ := Option.bind_eq_some_iff.mp h
  refine gv_d hq rfl rfl rfl rfl rfl ((t_M_of X d D E _ _ _ h1)) (S' := (35, [some (.ref 116), some (.int l1), some (.int l2), some (.int s0)], [.int r2], D, E)) rfl ?_
  refine gv_n hq 4 (S' := (39, [some (.ref 116), some (.int l1), some (.int l2), some (.int s0)], [.int (nI 1), .int l1, .ref 116, .int l2, .int r2], D, E)) rfl ?_
  obtain ⟨r3, h1, h⟩ := Option.bind_eq_some_iff.mp h
  refine gv_d hq rfl rfl rfl rfl rfl ((t_M_of X d D E _ _ _ h1)) (S' := (42, [some (.ref 116), some (.int l1), some (.int l2), some (.int s0)], [.int r3, .int l2, .int r2], D, E)) rfl ?_
  refine gv_n hq 5 (S' := (47, [some (.ref 116), some (.int l1), some (.int l2), some (.int s0)], [.int (nI 2), .int l1, .ref 116, .int (r2 + (l2 * r3))], D, E)) rfl ?_
  obtain ⟨r4, h1, h⟩ := Option.bind_eq_some_iff.mp h
  refine gv_d hq rfl rfl rfl rfl rfl ((t_M_of X d D E _ _ _ h1)) (S' := (50, [some (.ref 116), some (.int l1), some (.int l2), some (.int s0)], [.int r4, .int (r2 + (l2 * r3))], D, E)) rfl ?_
  refine gv_n hq 5 (S' := (55, [some (.ref 116), some (.int l1), some (.int l2), some (.int s0)], [.int l1, .ref 116, .int (((r2 + (l2 * r3)) + r4) + s0)], D, E)) rfl ?_
  obtain ⟨r5, h1, h⟩ := Option.bind_eq_some_iff.mp h
  refine gv_d hq rfl rfl rfl rfl rfl (gv_dd (by omega) (t_M_booksOf X F (d - 1) (by omega) D E _ _ h1)) (S' := (58, [some (.ref 116), some (.int l1), some (.int l2), some (.int s0)], [.int r5, .int (((r2 + (l2 * r3)) + r4) + s0)], D, E)) rfl ?_
  refine gv_n hq 1 (S' := (59, [some (.ref 116), some (.int l1), some (.int l2), some (.int s0)], [.int ((((r2 + (l2 * r3)) + r4) + s0) + r5)], D, E)) rfl ?_
  cases h
  exact ev_ret hq rfl rfl ⟨rfl, rfl, rfl⟩
def g_M_bodyOf (F : Nat) (D : mx_D) (a1 : Int32) (a2 : Int32) : Option (Int32) := (Option.bind (g_M_of D a1 (nI 5)) (fun r1 => (if r1 = (-1 : Int32) then (b_M_bodyOf_28 F D a1 a2 (nI 0)) else (Option.bind (g_M_of D a1 (nI 5)) (fun r6 => (rk 106 ((nI 88) + r6) (b_M_bodyOf_28 F D a1 a2 (D 117 (((nI 88) + r6)).toNatClampNeg))))))))
set_option maxRecDepth 100000 in
set_option maxHeartbeats 4000000 in
theorem t_M_bodyOf (X : ev_X) (F : Nat) (d : Nat) (hd : 2 ≤ d + 1) (D : mx_D) (E : mx_E) (a1 : Int32) (a2 : Int32) (v : Int32) (h : g_M_bodyOf F D a1 a2 = some v) : ev X (d + 1) 232 (0, [some (.ref 116), some (.int a1), some (.int a2), none], [], D, E) (qR (some (.int v)) D E) := by
  have hq : kq_m 232 = some kq_q232 := rfl
  unfold g_M_bodyOf at h
  refine gv_n hq 3 (S' := (3, [some (.ref 116), some (.int a1), some (.int a2), none], [.int (nI 5), .int a1, .ref 116], D, E)) rfl ?_
  obtain ⟨r1, h1, h⟩ := Option.bind_eq_some_iff.mp h
  refine gv_d hq rfl rfl rfl rfl rfl ((t_M_of X d D E _ _ _ h1)) (S' := (6, [some (.ref 116), some (.int a1), some (.int a2), none], [.int r1], D, E)) rfl ?_
  refine gv_n hq 1 (S' := (7, [some (.ref 116), some (.int a1), some (.int a2), none], [.int (-1 : Int32), .int r1], D, E)) rfl ?_
  refine gv_b hq rfl h 10 14 rfl rfl rfl (fun h => ?_) (fun h => ?_)
  · refine gv_n hq 2 (S' := (28, [some (.ref 116), some (.int a1), some (.int a2), none], [.int (nI 0)], D, E)) rfl ?_
    exact gv_w (tb_M_bodyOf_28 X F d hd D E _ _ _ _ h) (And.intro rfl (And.intro rfl (And.intro rfl trivial)))
  · refine gv_n hq 6 (S' := (23, [some (.ref 116), some (.int a1), some (.int a2), none], [.int (nI 5), .int a1, .ref 116, .int (nI 88), .ref 117], D, E)) rfl ?_
    obtain ⟨r6, h1, h⟩ := Option.bind_eq_some_iff.mp h
    refine gv_d hq rfl rfl rfl rfl rfl ((t_M_of X d D E _ _ _ h1)) (S' := (26, [some (.ref 116), some (.int a1), some (.int a2), none], [.int r6, .int (nI 88), .ref 117], D, E)) rfl ?_
    refine gv_n hq 1 (S' := (27, [some (.ref 116), some (.int a1), some (.int a2), none], [.int ((nI 88) + r6), .ref 117], D, E)) rfl ?_
    refine gv_ia hq rfl rfl rfl h 28 rfl (fun h => ?_)
    exact gv_w (tb_M_bodyOf_28 X F d hd D E _ _ _ _ h) (And.intro rfl (And.intro rfl (And.intro rfl trivial)))
def g_M_sits (D : mx_D) (a1 : Int32) : Option (Int32) := (Option.bind (g_M_of D a1 (nI 3)) (fun r1 => (if r1 = (-1 : Int32) then (some (nI 0)) else (some (nI 1)))))
set_option maxRecDepth 100000 in
set_option maxHeartbeats 4000000 in
theorem t_M_sits (X : ev_X) (d : Nat) (hd : 1 ≤ d + 1) (D : mx_D) (E : mx_E) (a1 : Int32) (v : Int32) (h : g_M_sits D a1 = some v) : ev X (d + 1) 234 (0, [some (.ref 116), some (.int a1)], [], D, E) (qR (some (.int v)) D E) := by
  have hq : kq_m 234 = some kq_q234 := rfl
  unfold g_M_sits at h
  refine gv_n hq 3 (S' := (3, [some (.ref 116), some (.int a1)], [.int (nI 3), .int a1, .ref 116], D, E)) rfl ?_
  obtain ⟨r1, h1, h⟩ := Option.bind_eq_some_iff.mp h
  refine gv_d hq rfl rfl rfl rfl rfl ((t_M_of X d D E _ _ _ h1)) (S' := (6, [some (.ref 116), some (.int a1)], [.int r1], D, E)) rfl ?_
  refine gv_n hq 1 (S' := (7, [some (.ref 116), some (.int a1)], [.int (-1 : Int32), .int r1], D, E)) rfl ?_
  refine gv_b hq rfl h 14 10 rfl rfl rfl (fun h => ?_) (fun h => ?_)
  · refine gv_n hq 1 (S' := (15, [some (.ref 116), some (.int a1)], [.int (nI 0)], D, E)) rfl ?_
    cases h
    exact ev_ret hq rfl rfl ⟨rfl, rfl, rfl⟩
  · refine gv_n hq 2 (S' := (15, [some (.ref 116), some (.int a1)], [.int (nI 1)], D, E)) rfl ?_
    cases h
    exact ev_ret hq rfl rfl ⟨rfl, rfl, rfl⟩
def g_M_highOf (F : Nat) (D : mx_D) (a1 : Int32) (a2 : Int32) : Option (Int32) := (Option.bind (g_M_bodyOf F D a1 a2) (fun r1 => (Option.bind (g_M_sits D a1) (fun r2 => (if r2 = 0 then (some (r1 + (nI 0))) else (Option.bind (g_M_of D a1 (nI 3)) (fun r3 => (Option.bind (g_M_of D a1 (nI 4)) (fun r4 => (Option.bind (g_M_floorOf D r3 r4) (fun r5 => (some (r1 + r5)))))))))))))
set_option maxRecDepth 100000 in
set_option maxHeartbeats 4000000 in
theorem t_M_highOf (X : ev_X) (F : Nat) (d : Nat) (hd : 3 ≤ d + 1) (D : mx_D) (E : mx_E) (a1 : Int32) (a2 : Int32) (v : Int32) (h : g_M_highOf F D a1 a2 = some v) : ev X (d + 1) 231 (0, [some (.ref 116), some (.int a1), some (.int a2)], [], D, E) (qR (some (.int v)) D E) := by
  have hq : kq_m 231 = some kq_q231 := rfl
  unfold g_M_highOf at h
  refine gv_n hq 3 (S' := (3, [some (.ref 116), some (.int a1), some (.int a2)], [.int a2, .int a1, .ref 116], D, E)) rfl ?_
  obtain ⟨r1, h1, h⟩ := Option.bind_eq_some_iff.mp h
  refine gv_d hq rfl rfl rfl rfl rfl (gv_dd (by omega) (t_M_bodyOf X F (d - 1) (by omega) D E _ _ _ h1)) (S' := (6, [some (.ref 116), some (.int a1), some (.int a2)], [.int r1], D, E)) rfl ?_
  refine gv_n hq 2 (S' := (8, [some (.ref 116), some (.int a1), some (.int a2)], [.int a1, .ref 116, .int r1], D, E)) rfl ?_
  obtain ⟨r2, h1, h⟩ := Option.bind_eq_some_iff.mp h
  refine gv_d hq rfl rfl rfl rfl rfl (gv_dd (by omega) (t_M_sits X (d - 1) (by omega) D E _ _ h1)) (S' := (11, [some (.ref 116), some (.int a1), some (.int a2)], [.int r2, .int r1], D, E)) rfl ?_
  refine gv_b hq rfl h 33 14 rfl rfl rfl (fun h => ?_) (fun h => ?_)
  · refine gv_n hq 2 (S' := (35, [some (.ref 116), some (.int a1), some (.int a2)], [.int (r1 + (nI 0))], D, E)) rfl ?_
    cases h
    exact ev_ret hq rfl rfl ⟨rfl, rfl, rfl⟩
  · refine gv_n hq 4 (S' := (18, [some (.ref 116), some (.int a1), some (.int a2)], [.int (nI 3), .int a1, .ref 116, .ref 116, .int r1], D, E)) rfl ?_
    obtain ⟨r3, h1, h⟩ := Option.bind_eq_some_iff.mp h
    refine gv_d hq rfl rfl rfl rfl rfl ((t_M_of X d D E _ _ _ h1)) (S' := (21, [some (.ref 116), some (.int a1), some (.int a2)], [.int r3, .ref 116, .int r1], D, E)) rfl ?_
    refine gv_n hq 3 (S' := (24, [some (.ref 116), some (.int a1), some (.int a2)], [.int (nI 4), .int a1, .ref 116, .int r3, .ref 116, .int r1], D, E)) rfl ?_
    obtain ⟨r4, h1, h⟩ := Option.bind_eq_some_iff.mp h
    refine gv_d hq rfl rfl rfl rfl rfl ((t_M_of X d D E _ _ _ h1)) (S' := (27, [some (.ref 116), some (.int a1), some (.int a2)], [.int r4, .int r3, .ref 116, .int r1], D, E)) rfl ?_
    obtain ⟨r5, h1, h⟩ := Option.bind_eq_some_iff.mp h
    refine gv_d hq rfl rfl rfl rfl rfl (gv_dd (by omega) (t_M_floorOf X (d - 1) (by omega) D E _ _ _ h1)) (S' := (30, [some (.ref 116), some (.int a1), some (.int a2)], [.int r5, .int r1], D, E)) rfl ?_
    refine gv_n hq 2 (S' := (35, [some (.ref 116), some (.int a1), some (.int a2)], [.int (r1 + r5)], D, E)) rfl ?_
    cases h
    exact ev_ret hq rfl rfl ⟨rfl, rfl, rfl⟩
def g_M_high (F : Nat) (D : mx_D) (a1 : Int32) (a2 : Int32) : Option (Int32) := (if (g_M_isPerson D a1) = 0 then (some (-1000 : Int32)) else (if (g_M_isYear D a2) = 0 then (some (-1000 : Int32)) else (Option.bind (g_M_highOf F D a1 a2) (fun r1 => (some r1)))))
set_option maxRecDepth 100000 in
set_option maxHeartbeats 4000000 in
theorem t_M_high (X : ev_X) (F : Nat) (d : Nat) (hd : 4 ≤ d + 1) (D : mx_D) (E : mx_E) (a1 : Int32) (a2 : Int32) (v : Int32) (h : g_M_high F D a1 a2 = some v) : ev X (d + 1) 228 (0, [some (.ref 116), some (.int a1), some (.int a2)], [], D, E) (qR (some (.int v)) D E) := by
  have hq : kq_m 228 = some kq_q228 := rfl
  unfold g_M_high at h
  refine gv_n hq 2 (S' := (2, [some (.ref 116), some (.int a1), some (.int a2)], [.int a1, .ref 116], D, E)) rfl ?_
  refine gv_d hq rfl rfl rfl rfl rfl (gv_dd (by omega) (t_M_isPerson X (d - 1) (by omega) D E _ _ rfl)) (S' := (5, [some (.ref 116), some (.int a1), some (.int a2)], [.int (g_M_isPerson D a1)], D, E)) rfl ?_
  refine gv_b hq rfl h 25 8 rfl rfl rfl (fun h => ?_) (fun h => ?_)
  · refine gv_n hq 1 (S' := (28, [some (.ref 116), some (.int a1), some (.int a2)], [.int (-1000 : Int32)], D, E)) rfl ?_
    cases h
    exact ev_ret hq rfl rfl ⟨rfl, rfl, rfl⟩
  · refine gv_n hq 2 (S' := (10, [some (.ref 116), some (.int a1), some (.int a2)], [.int a2, .ref 116], D, E)) rfl ?_
    refine gv_d hq rfl rfl rfl rfl rfl (gv_dd (by omega) (t_M_isYear X (d - 1) (by omega) D E _ _ rfl)) (S' := (13, [some (.ref 116), some (.int a1), some (.int a2)], [.int (g_M_isYear D a2)], D, E)) rfl ?_
    refine gv_b hq rfl h 25 16 rfl rfl rfl (fun h => ?_) (fun h => ?_)
    · refine gv_n hq 1 (S' := (28, [some (.ref 116), some (.int a1), some (.int a2)], [.int (-1000 : Int32)], D, E)) rfl ?_
      cases h
      exact ev_ret hq rfl rfl ⟨rfl, rfl, rfl⟩
    · refine gv_n hq 3 (S' := (19, [some (.ref 116), some (.int a1), some (.int a2)], [.int a2, .int a1, .ref 116], D, E)) rfl ?_
      obtain ⟨r1, h1, h⟩ := Option.bind_eq_some_iff.mp h
      refine gv_d hq rfl rfl rfl rfl rfl (gv_dd (by omega) (t_M_highOf X F (d - 1) (by omega) D E _ _ _ h1)) (S' := (22, [some (.ref 116), some (.int a1), some (.int a2)], [.int r1], D, E)) rfl ?_
      refine gv_n hq 1 (S' := (28, [some (.ref 116), some (.int a1), some (.int a2)], [.int r1], D, E)) rfl ?_
      cases h
      exact ev_ret hq rfl rfl ⟨rfl, rfl, rfl⟩
def g_Church_isThere (D : mx_D) : Int32 := (if (D 19 4) ≤ 0 then (nI 0) else (nI 1))
set_option maxRecDepth 100000 in
set_option maxHeartbeats 4000000 in
theorem t_Church_isThere (X : ev_X) (d : Nat) (D : mx_D) (E : mx_E) (v : Int32) (h : g_Church_isThere D = v) : ev X d 30 (0, [some (.ref 19)], [], D, E) (qR (some (.int v)) D E) := by
  have hq : kq_m 30 = some kq_q30 := rfl
  unfold g_Church_isThere at h
  refine gv_n hq 2 (S' := (4, [some (.ref 19)], [.int (D 19 4)], D, E)) rfl ?_
  refine gv_b hq rfl h 11 7 rfl rfl rfl (fun h => ?_) (fun h => ?_)
  · refine gv_n hq 1 (S' := (12, [some (.ref 19)], [.int (nI 0)], D, E)) rfl ?_
    subst h
    exact ev_ret hq rfl rfl ⟨rfl, rfl, rfl⟩
  · refine gv_n hq 2 (S' := (12, [some (.ref 19)], [.int (nI 1)], D, E)) rfl ?_
    subst h
    exact ev_ret hq rfl rfl ⟨rfl, rfl, rfl⟩
theorem z_Church_isThere (D : mx_D) : g_Church_isThere D = 0 ∨ g_Church_isThere D = 1 := by
  unfold g_Church_isThere
  (repeat' split) <;> first | exact Or.inl rfl | exact Or.inr rfl
def g_X_canAsk (D : mx_D) (a1 : Int32) : Int32 := (if (g_Church_isThere D) = 0 then (nI 0) else (if (g_X_isYear a1) = 0 then (nI 0) else (nI 1)))
set_option maxRecDepth 100000 in
set_option maxHeartbeats 4000000 in
theorem t_X_canAsk (X : ev_X) (d : Nat) (hd : 1 ≤ d + 1) (D : mx_D) (E : mx_E) (a1 : Int32) (v : Int32) (h : g_X_canAsk D a1 = v) : ev X (d + 1) 119 (0, [some (.ref 0), some (.int a1)], [], D, E) (qR (some (.int v)) D E) := by
  have hq : kq_m 119 = some kq_q119 := rfl
  unfold g_X_canAsk at h
  refine gv_n hq 2 (S' := (4, [some (.ref 0), some (.int a1)], [.ref 19], D, E)) rfl ?_
  refine gv_d hq rfl rfl rfl rfl rfl ((t_Church_isThere X d D E _ rfl)) (S' := (7, [some (.ref 0), some (.int a1)], [.int (g_Church_isThere D)], D, E)) rfl ?_
  refine gv_b hq rfl h 21 10 rfl rfl rfl (fun h => ?_) (fun h => ?_)
  · refine gv_n hq 1 (S' := (22, [some (.ref 0), some (.int a1)], [.int (nI 0)], D, E)) rfl ?_
    subst h
    exact ev_ret hq rfl rfl ⟨rfl, rfl, rfl⟩
  · refine gv_n hq 1 (S' := (11, [some (.ref 0), some (.int a1)], [.int a1], D, E)) rfl ?_
    refine gv_d hq rfl rfl rfl rfl rfl ((t_X_isYear X d D E _ _ rfl)) (S' := (14, [some (.ref 0), some (.int a1)], [.int (g_X_isYear a1)], D, E)) rfl ?_
    refine gv_b hq rfl h 21 17 rfl rfl rfl (fun h => ?_) (fun h => ?_)
    · refine gv_n hq 1 (S' := (22, [some (.ref 0), some (.int a1)], [.int (nI 0)], D, E)) rfl ?_
      subst h
      exact ev_ret hq rfl rfl ⟨rfl, rfl, rfl⟩
    · refine gv_n hq 2 (S' := (22, [some (.ref 0), some (.int a1)], [.int (nI 1)], D, E)) rfl ?_
      subst h
      exact ev_ret hq rfl rfl ⟨rfl, rfl, rfl⟩
theorem z_X_canAsk (D : mx_D) (a1 : Int32) : g_X_canAsk D a1 = 0 ∨ g_X_canAsk D a1 = 1 := by
  unfold g_X_canAsk
  (repeat' split) <;> first | exact Or.inl rfl | exact Or.inr rfl
def b_Arrays_fill_36_5 (F : Nat) (k5 : Int32 → Int32 → Int32 → mx_D → Option (mx_D)) (l1 : Int32) (l2 : Int32) (l3 : Int32) (D : mx_D) : Option (mx_D) := (if l3 ≤ l2 then (some D) else (rk 4 l2 (k5 l1 (l2 + (nI 1)) l3 (sD D 36 (l2).toNatClampNeg l1))))
set_option maxRecDepth 100000 in
set_option maxHeartbeats 4000000 in
theorem tb_Arrays_fill_36_5 (X : ev_X) (F : Nat) (d : Nat) (E : mx_E) (k5 : Int32 → Int32 → Int32 → mx_D → Option (mx_D)) (K5 : ∀ (l1 : Int32) (l2 : Int32) (l3 : Int32) (D : mx_D) (v : mx_D), k5 l1 l2 l3 D = some v → ev X d 333 (5, [some (.ref 36), some (.int l1), some (.int l2), some (.int l3)], [], D, E) (qR none v E)) (l1 : Int32) (l2 : Int32) (l3 : Int32) (D : mx_D) (v : mx_D) (h : b_Arrays_fill_36_5 F k5 l1 l2 l3 D = some v) : ev X d 333 (5, [some (.ref 36), some (.int l1), some (.int l2), some (.int l3)], [], D, E) (qR none v E) := by
  have hq : kq_m 333 = some kq_q333 := rfl
  unfold b_Arrays_fill_36_5 at h
  refine gv_n hq 2 (S' := (7, [some (.ref 36), some (.int l1), some (.int l2), some (.int l3)], [.int l3, .int l2], D, E)) rfl ?_
  refine gv_b hq rfl h 20 10 rfl rfl rfl (fun h => ?_) (fun h => ?_)
  · cases h
    exact ev_ret hq rfl rfl ⟨rfl, rfl, rfl⟩
  · refine gv_n hq 3 (S' := (13, [some (.ref 36), some (.int l1), some (.int l2), some (.int l3)], [.int l1, .int l2, .ref 36], D, E)) rfl ?_
    refine gv_is hq rfl rfl h 14 rfl (fun h => ?_)
    refine gv_n hq 2 (S' := (5, [some (.ref 36), some (.int l1), some (.int (l2 + (nI 1))), some (.int l3)], [], (sD D 36 (l2).toNatClampNeg l1), E)) rfl ?_
    exact gv_w (K5 _ _ _ _ _ h) (And.intro rfl (And.intro rfl (And.intro rfl (And.intro rfl trivial))))
def g_Arrays_fill_36_5 (F : Nat) : Nat → Int32 → Int32 → Int32 → mx_D → Option (mx_D) := it (fun k5 => b_Arrays_fill_36_5 F k5) (fun _ _ _ _ => none)
set_option maxRecDepth 100000 in
set_option maxHeartbeats 4000000 in
theorem t_Arrays_fill_36_5 (X : ev_X) (F : Nat) (d : Nat) (E : mx_E)  : ∀ (n : Nat) (l1 : Int32) (l2 : Int32) (l3 : Int32) (D : mx_D) (v : mx_D), g_Arrays_fill_36_5 F n l1 l2 l3 D = some v → ev X d 333 (5, [some (.ref 36), some (.int l1), some (.int l2), some (.int l3)], [], D, E) (qR none v E) := by
  intro n
  induction n with
  | zero => intro l1 l2 l3 D v h; cases h
  | succ n ih => intro l1 l2 l3 D v h; exact tb_Arrays_fill_36_5 X F d E (g_Arrays_fill_36_5 F n) ih l1 l2 l3 D v h
def g_Arrays_fill_36 (F : Nat) (a1 : Int32) (D : mx_D) : Option (mx_D) := (g_Arrays_fill_36_5 F F a1 (nI 0) (nI 4) D)
set_option maxRecDepth 100000 in
set_option maxHeartbeats 4000000 in
theorem t_Arrays_fill_36 (X : ev_X) (F : Nat) (d : Nat) (E : mx_E) (a1 : Int32) (D : mx_D) (v : mx_D) (h : g_Arrays_fill_36 F a1 D = some v) : ev X d 333 (0, [some (.ref 36), some (.int a1), none, none], [], D, E) (qR none v E) := by
  have hq : kq_m 333 = some kq_q333 := rfl
  unfold g_Arrays_fill_36 at h
  refine gv_n hq 5 (S' := (5, [some (.ref 36), some (.int a1), some (.int (nI 0)), some (.int (nI 4))], [], D, E)) rfl ?_
  exact gv_w (t_Arrays_fill_36_5 X F d E F _ _ _ _ _ h) (And.intro rfl (And.intro rfl (And.intro rfl (And.intro rfl trivial))))
def g_Heights_put (a1 : Int32) (a2 : Int32) (a3 : Int32) (D : mx_D) : Option (mx_D) := (rk 8 a1 (rk 4 a2 (rk 4 a2 (some (sD (sD (sD D 35 (a1).toNatClampNeg a3) 36 (a2).toNatClampNeg (((sD D 35 (a1).toNatClampNeg a3) 36 (a2).toNatClampNeg) ||| ((nI 1) <<< (a1 &&& 31)))) 34 2 (((sD (sD D 35 (a1).toNatClampNeg a3) 36 (a2).toNatClampNeg (((sD D 35 (a1).toNatClampNeg a3) 36 (a2).toNatClampNeg) ||| ((nI 1) <<< (a1 &&& 31)))) 34 2) ||| ((nI 1) <<< (a1 &&& 31))))))))
set_option maxRecDepth 100000 in
set_option maxHeartbeats 4000000 in
theorem t_Heights_put (X : ev_X) (d : Nat) (E : mx_E) (a1 : Int32) (a2 : Int32) (a3 : Int32) (D : mx_D) (v : mx_D) (h : g_Heights_put a1 a2 a3 D = some v) : ev X d 46 (0, [some (.ref 34), some (.int a1), some (.int a2), some (.int a3)], [], D, E) (qR none v E) := by
  have hq : kq_m 46 = some kq_q46 := rfl
  unfold g_Heights_put at h
  refine gv_n hq 4 (S' := (6, [some (.ref 34), some (.int a1), some (.int a2), some (.int a3)], [.int a3, .int a1, .ref 35], D, E)) rfl ?_
  refine gv_is hq rfl rfl h 7 rfl (fun h => ?_)
  refine gv_n hq 4 (S' := (13, [some (.ref 34), some (.int a1), some (.int a2), some (.int a3)], [.int a2, .ref 36, .int a2, .ref 36], (sD D 35 (a1).toNatClampNeg a3), E)) rfl ?_
  refine gv_ia hq rfl rfl rfl h 14 rfl (fun h => ?_)
  refine gv_n hq 4 (S' := (18, [some (.ref 34), some (.int a1), some (.int a2), some (.int a3)], [.int (((sD D 35 (a1).toNatClampNeg a3) 36 (a2).toNatClampNeg) ||| ((nI 1) <<< (a1 &&& 31))), .int a2, .ref 36], (sD D 35 (a1).toNatClampNeg a3), E)) rfl ?_
  refine gv_is hq rfl rfl h 19 rfl (fun h => ?_)
  refine gv_n hq 8 (S' := (31, [some (.ref 34), some (.int a1), some (.int a2), some (.int a3)], [], (sD (sD (sD D 35 (a1).toNatClampNeg a3) 36 (a2).toNatClampNeg (((sD D 35 (a1).toNatClampNeg a3) 36 (a2).toNatClampNeg) ||| ((nI 1) <<< (a1 &&& 31)))) 34 2 (((sD (sD D 35 (a1).toNatClampNeg a3) 36 (a2).toNatClampNeg (((sD D 35 (a1).toNatClampNeg a3) 36 (a2).toNatClampNeg) ||| ((nI 1) <<< (a1 &&& 31)))) 34 2) ||| ((nI 1) <<< (a1 &&& 31)))), E)) rfl ?_
  cases h
  exact ev_ret hq rfl rfl ⟨rfl, rfl, rfl⟩
def b_Heights_take_23 (F : Nat) (k23 : Int32 → Int32 → mx_D → Option (mx_D)) (l2 : Int32) (l3 : Int32) (D : mx_D) : Option (mx_D) := (if (D 24 6) ≤ l3 then (some D) else (Option.bind (g_Church_highOf F D l3 l2) (fun r2 => (rk 8 l3 (Option.bind (g_Church_isSeated (sD D 35 (l3).toNatClampNeg r2) l3) (fun r3 => (if r3 = 0 then (k23 l2 (l3 + (nI 1)) (sD D 35 (l3).toNatClampNeg r2)) else (rk 8 l3 (Option.bind (g_Heights_put l3 ((sD D 35 (l3).toNatClampNeg r2) 28 (l3).toNatClampNeg) r2 (sD D 35 (l3).toNatClampNeg r2)) (fun r4 => (k23 l2 (l3 + (nI 1)) r4)))))))))))
set_option maxRecDepth 100000 in
set_option maxHeartbeats 4000000 in
theorem tb_Heights_take_23 (X : ev_X) (F : Nat) (d : Nat) (hd : 4 ≤ d + 1) (E : mx_E) (k23 : Int32 → Int32 → mx_D → Option (mx_D)) (K23 : ∀ (l2 : Int32) (l3 : Int32) (D : mx_D) (v : mx_D), k23 l2 l3 D = some v → ev X (d + 1) 45 (23, [some (.ref 34), some (.ref 19), some (.int l2), some (.int l3), none], [], D, E) (qR none v E)) (l2 : Int32) (l3 : Int32) (D : mx_D) (v : mx_D) (h : b_Heights_take_23 F k23 l2 l3 D = some v) : ev X (d + 1) 45 (23, [some (.ref 34), some (.ref 19), some (.int l2), some (.int l3), none], [], D, E) (qR none v E) := by
  have hq : kq_m 45 = some kq_q45 := rfl
  unfold b_Heights_take_23 at h
  refine gv_n hq 4 (S' := (31, [some (.ref 34), some (.ref 19), some (.int l2), some (.int l3), none], [.int (D 24 6), .int l3], D, E)) rfl ?_
  refine gv_b hq rfl h 80 34 rfl rfl rfl (fun h => ?_) (fun h => ?_)
  · cases h
    exact ev_ret hq rfl rfl ⟨rfl, rfl, rfl⟩
  · refine gv_n hq 3 (S' := (37, [some (.ref 34), some (.ref 19), some (.int l2), some (.int l3), none], [.int l2, .int l3, .ref 19], D, E)) rfl ?_
    obtain ⟨r2, h1, h⟩ := Option.bind_eq_some_iff.mp h
    refine gv_d hq rfl rfl rfl rfl rfl (gv_dd (by omega) (t_Church_highOf X F (d - 1) (by omega) D E _ _ _ h1)) (S' := (40, [some (.ref 34), some (.ref 19), some (.int l2), some (.int l3), none], [.int r2], D, E)) rfl ?_
    refine gv_n hq 5 (S' := (49, [some (.ref 34), some (.ref 19), some (.int l2), some (.int l3), some (.int r2)], [.int r2, .int l3, .ref 35], D, E)) rfl ?_
    refine gv_is hq rfl rfl h 50 rfl (fun h => ?_)
    refine gv_n hq 2 (S' := (52, [some (.ref 34), some (.ref 19), some (.int l2), some (.int l3), some (.int r2)], [.int l3, .ref 19], (sD D 35 (l3).toNatClampNeg r2), E)) rfl ?_
    obtain ⟨r3, h1, h⟩ := Option.bind_eq_some_iff.mp h
    refine gv_d hq rfl rfl rfl rfl rfl (gv_dd (by omega) (t_Church_isSeated X (d - 1) (by omega) (sD D 35 (l3).toNatClampNeg r2) E _ _ h1)) (S' := (55, [some (.ref 34), some (.ref 19), some (.int l2), some (.int l3), some (.int r2)], [.int r3], (sD D 35 (l3).toNatClampNeg r2), E)) rfl ?_
    refine gv_b hq rfl h 74 58 rfl rfl rfl (fun h => ?_) (fun h => ?_)
    · refine gv_n hq 2 (S' := (23, [some (.ref 34), some (.ref 19), some (.int l2), some (.int (l3 + (nI 1))), some (.int r2)], [], (sD D 35 (l3).toNatClampNeg r2), E)) rfl ?_
      exact gv_w (K23 _ _ _ _ h) (And.intro rfl (And.intro rfl (And.intro rfl (And.intro rfl trivial))))
    · refine gv_n hq 6 (S' := (68, [some (.ref 34), some (.ref 19), some (.int l2), some (.int l3), some (.int r2)], [.int l3, .ref 28, .int l3, .ref 34], (sD D 35 (l3).toNatClampNeg r2), E)) rfl ?_
      refine gv_ia hq rfl rfl rfl h 69 rfl (fun h => ?_)
      refine gv_n hq 1 (S' := (71, [some (.ref 34), some (.ref 19), some (.int l2), some (.int l3), some (.int r2)], [.int r2, .int ((sD D 35 (l3).toNatClampNeg r2) 28 (l3).toNatClampNeg), .int l3, .ref 34], (sD D 35 (l3).toNatClampNeg r2), E)) rfl ?_
      obtain ⟨r4, h1, h⟩ := Option.bind_eq_some_iff.mp h
      refine gv_d hq rfl rfl rfl rfl rfl ((t_Heights_put X d E _ _ _ _ _ h1)) (S' := (74, [some (.ref 34), some (.ref 19), some (.int l2), some (.int l3), some (.int r2)], [], r4, E)) rfl ?_
      refine gv_n hq 2 (S' := (23, [some (.ref 34), some (.ref 19), some (.int l2), some (.int (l3 + (nI 1))), some (.int r2)], [], r4, E)) rfl ?_
      exact gv_w (K23 _ _ _ _ h) (And.intro rfl (And.intro rfl (And.intro rfl (And.intro rfl trivial))))
def g_Heights_take_23 (F : Nat) : Nat → Int32 → Int32 → mx_D → Option (mx_D) := it (fun k23 => b_Heights_take_23 F k23) (fun _ _ _ => none)
set_option maxRecDepth 100000 in
set_option maxHeartbeats 4000000 in
theorem t_Heights_take_23 (X : ev_X) (F : Nat) (d : Nat) (hd : 4 ≤ d + 1) (E : mx_E)  : ∀ (n : Nat) (l2 : Int32) (l3 : Int32) (D : mx_D) (v : mx_D), g_Heights_take_23 F n l2 l3 D = some v → ev X (d + 1) 45 (23, [some (.ref 34), some (.ref 19), some (.int l2), some (.int l3), none], [], D, E) (qR none v E) := by
  intro n
  induction n with
  | zero => intro l2 l3 D v h; cases h
  | succ n ih => intro l2 l3 D v h; exact tb_Heights_take_23 X F d hd E (g_Heights_take_23 F n) ih l2 l3 D v h
def g_Heights_take (F : Nat) (a2 : Int32) (D : mx_D) : Option (mx_D) := (Option.bind (g_Arrays_fill_36 F (nI 0) D) (fun r1 => (zk ((sD r1 34 2 (nI 0)) 19 3) (g_Heights_take_23 F F a2 (nI 0) (sD (sD r1 34 2 (nI 0)) 34 3 ((sD r1 34 2 (nI 0)) 19 3))))))
set_option maxRecDepth 100000 in
set_option maxHeartbeats 4000000 in
theorem t_Heights_take (X : ev_X) (F : Nat) (d : Nat) (hd : 4 ≤ d + 1) (E : mx_E) (a2 : Int32) (D : mx_D) (v : mx_D) (h : g_Heights_take F a2 D = some v) : ev X (d + 1) 45 (0, [some (.ref 34), some (.ref 19), some (.int a2), none, none], [], D, E) (qR none v E) := by
  have hq : kq_m 45 = some kq_q45 := rfl
  unfold g_Heights_take at h
  refine gv_n hq 3 (S' := (5, [some (.ref 34), some (.ref 19), some (.int a2), none, none], [.int (nI 0), .ref 36], D, E)) rfl ?_
  obtain ⟨r1, h1, h⟩ := Option.bind_eq_some_iff.mp h
  refine gv_d hq rfl rfl rfl rfl rfl ((t_Arrays_fill_36 X F d E _ _ _ h1)) (S' := (8, [some (.ref 34), some (.ref 19), some (.int a2), none, none], [], r1, E)) rfl ?_
  refine gv_n hq 6 (S' := (18, [some (.ref 34), some (.ref 19), some (.int a2), none, none], [.int ((sD r1 34 2 (nI 0)) 19 3), .ref 34], (sD r1 34 2 (nI 0)), E)) rfl ?_
  refine gv_zp hq rfl h (S' := (21, [some (.ref 34), some (.ref 19), some (.int a2), none, none], [], (sD (sD r1 34 2 (nI 0)) 34 3 ((sD r1 34 2 (nI 0)) 19 3)), E)) rfl (fun h => ?_)
  refine gv_n hq 2 (S' := (23, [some (.ref 34), some (.ref 19), some (.int a2), some (.int (nI 0)), none], [], (sD (sD r1 34 2 (nI 0)) 34 3 ((sD r1 34 2 (nI 0)) 19 3)), E)) rfl ?_
  exact gv_w (t_Heights_take_23 X F d hd E F _ _ _ _ h) (And.intro rfl (And.intro rfl (And.intro rfl (And.intro rfl trivial))))
def b_Heights_tallestOf_6 (F : Nat) (D : mx_D) (k6 : Int32 → Int32 → Int32 → Option (Int32)) (l1 : Int32) (l2 : Int32) (l3 : Int32) : Option (Int32) := (if (nI 8) ≤ l3 then (some l2) else (if ((l1 >>> (l3 &&& 31)) &&& (nI 1)) = 0 then (k6 l1 l2 (l3 + (nI 1))) else (rk 8 l3 (k6 l1 (imx l2 (D 35 (l3).toNatClampNeg)) (l3 + (nI 1))))))
set_option maxRecDepth 100000 in
set_option maxHeartbeats 4000000 in
theorem tb_Heights_tallestOf_6 (X : ev_X) (F : Nat) (d : Nat) (hd : 1 ≤ d + 1) (D : mx_D) (E : mx_E) (k6 : Int32 → Int32 → Int32 → Option (Int32)) (K6 : ∀ (l1 : Int32) (l2 : Int32) (l3 : Int32) (v : Int32), k6 l1 l2 l3 = some v → ev X (d + 1) 48 (6, [some (.ref 34), some (.int l1), some (.int l2), some (.int l3)], [], D, E) (qR (some (.int v)) D E)) (l1 : Int32) (l2 : Int32) (l3 : Int32) (v : Int32) (h : b_Heights_tallestOf_6 F D k6 l1 l2 l3 = some v) : ev X (d + 1) 48 (6, [some (.ref 34), some (.int l1), some (.int l2), some (.int l3)], [], D, E) (qR (some (.int v)) D E) := by
  have hq : kq_m 48 = some kq_q48 := rfl
  unfold b_Heights_tallestOf_6 at h
  refine gv_n hq 2 (S' := (9, [some (.ref 34), some (.int l1), some (.int l2), some (.int l3)], [.int (nI 8), .int l3], D, E)) rfl ?_
  refine gv_b hq rfl h 37 12 rfl rfl rfl (fun h => ?_) (fun h => ?_)
  · refine gv_n hq 1 (S' := (38, [some (.ref 34), some (.int l1), some (.int l2), some (.int l3)], [.int l2], D, E)) rfl ?_
    cases h
    exact ev_ret hq rfl rfl ⟨rfl, rfl, rfl⟩
  · refine gv_n hq 5 (S' := (17, [some (.ref 34), some (.int l1), some (.int l2), some (.int l3)], [.int ((l1 >>> (l3 &&& 31)) &&& (nI 1))], D, E)) rfl ?_
    refine gv_b hq rfl h 31 20 rfl rfl rfl (fun h => ?_) (fun h => ?_)
    · refine gv_n hq 2 (S' := (6, [some (.ref 34), some (.int l1), some (.int l2), some (.int (l3 + (nI 1)))], [], D, E)) rfl ?_
      exact gv_w (K6 _ _ _ _ h) (And.intro rfl (And.intro rfl (And.intro rfl (And.intro rfl trivial))))
    · refine gv_n hq 4 (S' := (26, [some (.ref 34), some (.int l1), some (.int l2), some (.int l3)], [.int l3, .ref 35, .int l2], D, E)) rfl ?_
      refine gv_ia hq rfl rfl rfl h 27 rfl (fun h => ?_)
      refine gv_n hq 4 (S' := (6, [some (.ref 34), some (.int l1), some (.int (imx l2 (D 35 (l3).toNatClampNeg))), some (.int (l3 + (nI 1)))], [], D, E)) rfl ?_
      exact gv_w (K6 _ _ _ _ h) (And.intro rfl (And.intro rfl (And.intro rfl (And.intro rfl trivial))))
def g_Heights_tallestOf_6 (F : Nat) (D : mx_D) : Nat → Int32 → Int32 → Int32 → Option (Int32) := it (fun k6 => b_Heights_tallestOf_6 F D k6) (fun _ _ _ => none)
set_option maxRecDepth 100000 in
set_option maxHeartbeats 4000000 in
theorem t_Heights_tallestOf_6 (X : ev_X) (F : Nat) (d : Nat) (hd : 1 ≤ d + 1) (D : mx_D) (E : mx_E)  : ∀ (n : Nat) (l1 : Int32) (l2 : Int32) (l3 : Int32) (v : Int32), g_Heights_tallestOf_6 F D n l1 l2 l3 = some v → ev X (d + 1) 48 (6, [some (.ref 34), some (.int l1), some (.int l2), some (.int l3)], [], D, E) (qR (some (.int v)) D E) := by
  intro n
  induction n with
  | zero => intro l1 l2 l3 v h; cases h
  | succ n ih => intro l1 l2 l3 v h; exact tb_Heights_tallestOf_6 X F d hd D E (g_Heights_tallestOf_6 F D n) ih l1 l2 l3 v h
def g_Heights_tallestOf (F : Nat) (D : mx_D) (a1 : Int32) : Option (Int32) := (g_Heights_tallestOf_6 F D F a1 (-10000 : Int32) (nI 0))
set_option maxRecDepth 100000 in
set_option maxHeartbeats 4000000 in
theorem t_Heights_tallestOf (X : ev_X) (F : Nat) (d : Nat) (hd : 1 ≤ d + 1) (D : mx_D) (E : mx_E) (a1 : Int32) (v : Int32) (h : g_Heights_tallestOf F D a1 = some v) : ev X (d + 1) 48 (0, [some (.ref 34), some (.int a1), none, none], [], D, E) (qR (some (.int v)) D E) := by
  have hq : kq_m 48 = some kq_q48 := rfl
  unfold g_Heights_tallestOf at h
  refine gv_n hq 4 (S' := (6, [some (.ref 34), some (.int a1), some (.int (-10000 : Int32)), some (.int (nI 0))], [], D, E)) rfl ?_
  exact gv_w (t_Heights_tallestOf_6 X F d hd D E F _ _ _ _ h) (And.intro rfl (And.intro rfl (And.intro rfl (And.intro rfl trivial))))
def b_Heights_lowestOf_6 (F : Nat) (D : mx_D) (k6 : Int32 → Int32 → Int32 → Option (Int32)) (l1 : Int32) (l2 : Int32) (l3 : Int32) : Option (Int32) := (if (nI 8) ≤ l3 then (some l2) else (if ((l1 >>> (l3 &&& 31)) &&& (nI 1)) = 0 then (k6 l1 l2 (l3 + (nI 1))) else (rk 8 l3 (k6 l1 (imn l2 (D 35 (l3).toNatClampNeg)) (l3 + (nI 1))))))
set_option maxRecDepth 100000 in
set_option maxHeartbeats 4000000 in
theorem tb_Heights_lowestOf_6 (X : ev_X) (F : Nat) (d : Nat) (hd : 1 ≤ d + 1) (D : mx_D) (E : mx_E) (k6 : Int32 → Int32 → Int32 → Option (Int32)) (K6 : ∀ (l1 : Int32) (l2 : Int32) (l3 : Int32) (v : Int32), k6 l1 l2 l3 = some v → ev X (d + 1) 49 (6, [some (.ref 34), some (.int l1), some (.int l2), some (.int l3)], [], D, E) (qR (some (.int v)) D E)) (l1 : Int32) (l2 : Int32) (l3 : Int32) (v : Int32) (h : b_Heights_lowestOf_6 F D k6 l1 l2 l3 = some v) : ev X (d + 1) 49 (6, [some (.ref 34), some (.int l1), some (.int l2), some (.int l3)], [], D, E) (qR (some (.int v)) D E) := by
  have hq : kq_m 49 = some kq_q49 := rfl
  unfold b_Heights_lowestOf_6 at h
  refine gv_n hq 2 (S' := (9, [some (.ref 34), some (.int l1), some (.int l2), some (.int l3)], [.int (nI 8), .int l3], D, E)) rfl ?_
  refine gv_b hq rfl h 37 12 rfl rfl rfl (fun h => ?_) (fun h => ?_)
  · refine gv_n hq 1 (S' := (38, [some (.ref 34), some (.int l1), some (.int l2), some (.int l3)], [.int l2], D, E)) rfl ?_
    cases h
    exact ev_ret hq rfl rfl ⟨rfl, rfl, rfl⟩
  · refine gv_n hq 5 (S' := (17, [some (.ref 34), some (.int l1), some (.int l2), some (.int l3)], [.int ((l1 >>> (l3 &&& 31)) &&& (nI 1))], D, E)) rfl ?_
    refine gv_b hq rfl h 31 20 rfl rfl rfl (fun h => ?_) (fun h => ?_)
    · refine gv_n hq 2 (S' := (6, [some (.ref 34), some (.int l1), some (.int l2), some (.int (l3 + (nI 1)))], [], D, E)) rfl ?_
      exact gv_w (K6 _ _ _ _ h) (And.intro rfl (And.intro rfl (And.intro rfl (And.intro rfl trivial))))
    · refine gv_n hq 4 (S' := (26, [some (.ref 34), some (.int l1), some (.int l2), some (.int l3)], [.int l3, .ref 35, .int l2], D, E)) rfl ?_
      refine gv_ia hq rfl rfl rfl h 27 rfl (fun h => ?_)
      refine gv_n hq 4 (S' := (6, [some (.ref 34), some (.int l1), some (.int (imn l2 (D 35 (l3).toNatClampNeg))), some (.int (l3 + (nI 1)))], [], D, E)) rfl ?_
      exact gv_w (K6 _ _ _ _ h) (And.intro rfl (And.intro rfl (And.intro rfl (And.intro rfl trivial))))
def g_Heights_lowestOf_6 (F : Nat) (D : mx_D) : Nat → Int32 → Int32 → Int32 → Option (Int32) := it (fun k6 => b_Heights_lowestOf_6 F D k6) (fun _ _ _ => none)
set_option maxRecDepth 100000 in
set_option maxHeartbeats 4000000 in
theorem t_Heights_lowestOf_6 (X : ev_X) (F : Nat) (d : Nat) (hd : 1 ≤ d + 1) (D : mx_D) (E : mx_E)  : ∀ (n : Nat) (l1 : Int32) (l2 : Int32) (l3 : Int32) (v : Int32), g_Heights_lowestOf_6 F D n l1 l2 l3 = some v → ev X (d + 1) 49 (6, [some (.ref 34), some (.int l1), some (.int l2), some (.int l3)], [], D, E) (qR (some (.int v)) D E) := by
  intro n
  induction n with
  | zero => intro l1 l2 l3 v h; cases h
  | succ n ih => intro l1 l2 l3 v h; exact tb_Heights_lowestOf_6 X F d hd D E (g_Heights_lowestOf_6 F D n) ih l1 l2 l3 v h
def g_Heights_lowestOf (F : Nat) (D : mx_D) (a1 : Int32) : Option (Int32) := (g_Heights_lowestOf_6 F D F a1 (nI 10000) (nI 0))
set_option maxRecDepth 100000 in
set_option maxHeartbeats 4000000 in
theorem t_Heights_lowestOf (X : ev_X) (F : Nat) (d : Nat) (hd : 1 ≤ d + 1) (D : mx_D) (E : mx_E) (a1 : Int32) (v : Int32) (h : g_Heights_lowestOf F D a1 = some v) : ev X (d + 1) 49 (0, [some (.ref 34), some (.int a1), none, none], [], D, E) (qR (some (.int v)) D E) := by
  have hq : kq_m 49 = some kq_q49 := rfl
  unfold g_Heights_lowestOf at h
  refine gv_n hq 4 (S' := (6, [some (.ref 34), some (.int a1), some (.int (nI 10000)), some (.int (nI 0))], [], D, E)) rfl ?_
  exact gv_w (t_Heights_lowestOf_6 X F d hd D E F _ _ _ _ h) (And.intro rfl (And.intro rfl (And.intro rfl (And.intro rfl trivial))))
def g_Heights_spreadOf (F : Nat) (D : mx_D) (a1 : Int32) : Option (Int32) := (if a1 = 0 then (some (nI 0)) else (Option.bind (g_Heights_tallestOf F D a1) (fun r1 => (Option.bind (g_Heights_lowestOf F D a1) (fun r2 => (some (r1 - r2)))))))
set_option maxRecDepth 100000 in
set_option maxHeartbeats 4000000 in
theorem t_Heights_spreadOf (X : ev_X) (F : Nat) (d : Nat) (hd : 2 ≤ d + 1) (D : mx_D) (E : mx_E) (a1 : Int32) (v : Int32) (h : g_Heights_spreadOf F D a1 = some v) : ev X (d + 1) 47 (0, [some (.ref 34), some (.int a1)], [], D, E) (qR (some (.int v)) D E) := by
  have hq : kq_m 47 = some kq_q47 := rfl
  unfold g_Heights_spreadOf at h
  refine gv_n hq 1 (S' := (1, [some (.ref 34), some (.int a1)], [.int a1], D, E)) rfl ?_
  refine gv_b hq rfl h 4 8 rfl rfl rfl (fun h => ?_) (fun h => ?_)
  · refine gv_n hq 2 (S' := (19, [some (.ref 34), some (.int a1)], [.int (nI 0)], D, E)) rfl ?_
    cases h
    exact ev_ret hq rfl rfl ⟨rfl, rfl, rfl⟩
  · refine gv_n hq 2 (S' := (10, [some (.ref 34), some (.int a1)], [.int a1, .ref 34], D, E)) rfl ?_
    obtain ⟨r1, h1, h⟩ := Option.bind_eq_some_iff.mp h
    refine gv_d hq rfl rfl rfl rfl rfl (gv_dd (by omega) (t_Heights_tallestOf X F (d - 1) (by omega) D E _ _ h1)) (S' := (13, [some (.ref 34), some (.int a1)], [.int r1], D, E)) rfl ?_
    refine gv_n hq 2 (S' := (15, [some (.ref 34), some (.int a1)], [.int a1, .ref 34, .int r1], D, E)) rfl ?_
    obtain ⟨r2, h1, h⟩ := Option.bind_eq_some_iff.mp h
    refine gv_d hq rfl rfl rfl rfl rfl (gv_dd (by omega) (t_Heights_lowestOf X F (d - 1) (by omega) D E _ _ h1)) (S' := (18, [some (.ref 34), some (.int a1)], [.int r2, .int r1], D, E)) rfl ?_
    refine gv_n hq 1 (S' := (19, [some (.ref 34), some (.int a1)], [.int (r1 - r2)], D, E)) rfl ?_
    cases h
    exact ev_ret hq rfl rfl ⟨rfl, rfl, rfl⟩
def b_X_spread_27 (F : Nat) (l1 : Int32) (l2 : Int32) (D : mx_D) : Option (Int32 × mx_D) := (Option.bind (g_Heights_take F l2 D) (fun r1 => (if l1 = (-1 : Int32) then (Option.bind (g_Heights_spreadOf F r1 (r1 34 2)) (fun r2 => (some (r2, r1)))) else (rk 4 l1 (Option.bind (g_Heights_spreadOf F r1 (r1 36 (l1).toNatClampNeg)) (fun r3 => (some (r3, r1))))))))
set_option maxRecDepth 100000 in
set_option maxHeartbeats 4000000 in
theorem tb_X_spread_27 (X : ev_X) (F : Nat) (d : Nat) (hd : 5 ≤ d + 1) (E : mx_E)  (l1 : Int32) (l2 : Int32) (D : mx_D) (v : Int32 × mx_D) (h : b_X_spread_27 F l1 l2 D = some v) : ev X (d + 1) 118 (27, [some (.ref 0), some (.int l1), some (.int l2)], [], D, E) (qR (some (.int v.1)) v.2 E) := by
  have hq : kq_m 118 = some kq_q118 := rfl
  unfold b_X_spread_27 at h
  refine gv_n hq 5 (S' := (36, [some (.ref 0), some (.int l1), some (.int l2)], [.int l2, .ref 19, .ref 34], D, E)) rfl ?_
  obtain ⟨r1, h1, h⟩ := Option.bind_eq_some_iff.mp h
  refine gv_d hq rfl rfl rfl rfl rfl (gv_dd (by omega) (t_Heights_take X F (d - 1) (by omega) E _ _ _ h1)) (S' := (39, [some (.ref 0), some (.int l1), some (.int l2)], [], r1, E)) rfl ?_
  refine gv_n hq 4 (S' := (45, [some (.ref 0), some (.int l1), some (.int l2)], [.int (-1 : Int32), .int l1, .ref 34], r1, E)) rfl ?_
  refine gv_b hq rfl h 48 58 rfl rfl rfl (fun h => ?_) (fun h => ?_)
  · refine gv_n hq 4 (S' := (67, [some (.ref 0), some (.int l1), some (.int l2)], [.int (r1 34 2), .ref 34], r1, E)) rfl ?_
    obtain ⟨r2, h1, h⟩ := Option.bind_eq_some_iff.mp h
    refine gv_d hq rfl rfl rfl rfl rfl (gv_dd (by omega) (t_Heights_spreadOf X F (d - 1) (by omega) r1 E _ _ h1)) (S' := (70, [some (.ref 0), some (.int l1), some (.int l2)], [.int r2], r1, E)) rfl ?_
    cases h
    exact ev_ret hq rfl rfl ⟨rfl, rfl, rfl⟩
  · refine gv_n hq 4 (S' := (66, [some (.ref 0), some (.int l1), some (.int l2)], [.int l1, .ref 36, .ref 34], r1, E)) rfl ?_
    refine gv_ia hq rfl rfl rfl h 67 rfl (fun h => ?_)
    obtain ⟨r3, h1, h⟩ := Option.bind_eq_some_iff.mp h
    refine gv_d hq rfl rfl rfl rfl rfl (gv_dd (by omega) (t_Heights_spreadOf X F (d - 1) (by omega) r1 E _ _ h1)) (S' := (70, [some (.ref 0), some (.int l1), some (.int l2)], [.int r3], r1, E)) rfl ?_
    cases h
    exact ev_ret hq rfl rfl ⟨rfl, rfl, rfl⟩
def g_X_spread (F : Nat) (a1 : Int32) (a2 : Int32) (D : mx_D) : Option (Int32 × mx_D) := (if (g_X_canAsk D a2) = 0 then (some ((-2 : Int32), D)) else (if a1 = (-1 : Int32) then (b_X_spread_27 F a1 a2 D) else (if (g_Church_hasPew D a1) = 0 then (some ((-2 : Int32), D)) else (b_X_spread_27 F a1 a2 D))))
set_option maxRecDepth 100000 in
set_option maxHeartbeats 4000000 in
theorem t_X_spread (X : ev_X) (F : Nat) (d : Nat) (hd : 5 ≤ d + 1) (E : mx_E) (a1 : Int32) (a2 : Int32) (D : mx_D) (v : Int32 × mx_D) (h : g_X_spread F a1 a2 D = some v) : ev X (d + 1) 118 (0, [some (.ref 0), some (.int a1), some (.int a2)], [], D, E) (qR (some (.int v.1)) v.2 E) := by
  have hq : kq_m 118 = some kq_q118 := rfl
  unfold g_X_spread at h
  refine gv_n hq 2 (S' := (2, [some (.ref 0), some (.int a1), some (.int a2)], [.int a2, .ref 0], D, E)) rfl ?_
  refine gv_d hq rfl rfl rfl rfl rfl (gv_dd (by omega) (t_X_canAsk X (d - 1) (by omega) D E _ _ rfl)) (S' := (5, [some (.ref 0), some (.int a1), some (.int a2)], [.int (g_X_canAsk D a2)], D, E)) rfl ?_
  refine gv_b hq rfl h 24 8 rfl rfl rfl (fun h => ?_) (fun h => ?_)
  · refine gv_n hq 1 (S' := (26, [some (.ref 0), some (.int a1), some (.int a2)], [.int (-2 : Int32)], D, E)) rfl ?_
    cases h
    exact ev_ret hq rfl rfl ⟨rfl, rfl, rfl⟩
  · refine gv_n hq 2 (S' := (10, [some (.ref 0), some (.int a1), some (.int a2)], [.int (-1 : Int32), .int a1], D, E)) rfl ?_
    refine gv_b hq rfl h 27 13 rfl rfl rfl (fun h => ?_) (fun h => ?_)
    · exact gv_w (tb_X_spread_27 X F d hd E _ _ _ _ h) (And.intro rfl (And.intro rfl (And.intro rfl trivial)))
    · refine gv_n hq 3 (S' := (18, [some (.ref 0), some (.int a1), some (.int a2)], [.int a1, .ref 19], D, E)) rfl ?_
      refine gv_d hq rfl rfl rfl rfl rfl ((t_Church_hasPew X d D E _ _ rfl)) (S' := (21, [some (.ref 0), some (.int a1), some (.int a2)], [.int (g_Church_hasPew D a1)], D, E)) rfl ?_
      refine gv_b hq rfl h 24 27 rfl rfl rfl (fun h => ?_) (fun h => ?_)
      · refine gv_n hq 1 (S' := (26, [some (.ref 0), some (.int a1), some (.int a2)], [.int (-2 : Int32)], D, E)) rfl ?_
        cases h
        exact ev_ret hq rfl rfl ⟨rfl, rfl, rfl⟩
      · exact gv_w (tb_X_spread_27 X F d hd E _ _ _ _ h) (And.intro rfl (And.intro rfl (And.intro rfl trivial)))
def b_M_lay_2 (F : Nat) (k2 : Int32 → Int32 → mx_D → Option (mx_D)) (l1 : Int32) (l2 : Int32) (D : mx_D) : Option (mx_D) := (if (D 117 4) ≤ l2 then (some D) else (Option.bind (g_M_highOf F D l2 l1) (fun r1 => (rk 8 l2 (k2 l1 (l2 + (nI 1)) (sD D 123 (l2).toNatClampNeg r1))))))
set_option maxRecDepth 100000 in
set_option maxHeartbeats 4000000 in
theorem tb_M_lay_2 (X : ev_X) (F : Nat) (d : Nat) (hd : 4 ≤ d + 1) (E : mx_E) (k2 : Int32 → Int32 → mx_D → Option (mx_D)) (K2 : ∀ (l1 : Int32) (l2 : Int32) (D : mx_D) (v : mx_D), k2 l1 l2 D = some v → ev X (d + 1) 236 (2, [some (.ref 116), some (.int l1), some (.int l2)], [], D, E) (qR none v E)) (l1 : Int32) (l2 : Int32) (D : mx_D) (v : mx_D) (h : b_M_lay_2 F k2 l1 l2 D = some v) : ev X (d + 1) 236 (2, [some (.ref 116), some (.int l1), some (.int l2)], [], D, E) (qR none v E) := by
  have hq : kq_m 236 = some kq_q236 := rfl
  unfold b_M_lay_2 at h
  refine gv_n hq 5 (S' := (9, [some (.ref 116), some (.int l1), some (.int l2)], [.int (D 117 4), .int l2], D, E)) rfl ?_
  refine gv_b hq rfl h 30 12 rfl rfl rfl (fun h => ?_) (fun h => ?_)
  · cases h
    exact ev_ret hq rfl rfl ⟨rfl, rfl, rfl⟩
  · refine gv_n hq 6 (S' := (20, [some (.ref 116), some (.int l1), some (.int l2)], [.int l1, .int l2, .ref 116, .int l2, .ref 123], D, E)) rfl ?_
    obtain ⟨r1, h1, h⟩ := Option.bind_eq_some_iff.mp h
    refine gv_d hq rfl rfl rfl rfl rfl (gv_dd (by omega) (t_M_highOf X F (d - 1) (by omega) D E _ _ _ h1)) (S' := (23, [some (.ref 116), some (.int l1), some (.int l2)], [.int r1, .int l2, .ref 123], D, E)) rfl ?_
    refine gv_is hq rfl rfl h 24 rfl (fun h => ?_)
    refine gv_n hq 2 (S' := (2, [some (.ref 116), some (.int l1), some (.int (l2 + (nI 1)))], [], (sD D 123 (l2).toNatClampNeg r1), E)) rfl ?_
    exact gv_w (K2 _ _ _ _ h) (And.intro rfl (And.intro rfl (And.intro rfl trivial)))
def g_M_lay_2 (F : Nat) : Nat → Int32 → Int32 → mx_D → Option (mx_D) := it (fun k2 => b_M_lay_2 F k2) (fun _ _ _ => none)
set_option maxRecDepth 100000 in
set_option maxHeartbeats 4000000 in
theorem t_M_lay_2 (X : ev_X) (F : Nat) (d : Nat) (hd : 4 ≤ d + 1) (E : mx_E)  : ∀ (n : Nat) (l1 : Int32) (l2 : Int32) (D : mx_D) (v : mx_D), g_M_lay_2 F n l1 l2 D = some v → ev X (d + 1) 236 (2, [some (.ref 116), some (.int l1), some (.int l2)], [], D, E) (qR none v E) := by
  intro n
  induction n with
  | zero => intro l1 l2 D v h; cases h
  | succ n ih => intro l1 l2 D v h; exact tb_M_lay_2 X F d hd E (g_M_lay_2 F n) ih l1 l2 D v h
def g_M_lay (F : Nat) (a1 : Int32) (D : mx_D) : Option (mx_D) := (g_M_lay_2 F F a1 (nI 0) D)
set_option maxRecDepth 100000 in
set_option maxHeartbeats 4000000 in
theorem t_M_lay (X : ev_X) (F : Nat) (d : Nat) (hd : 4 ≤ d + 1) (E : mx_E) (a1 : Int32) (D : mx_D) (v : mx_D) (h : g_M_lay F a1 D = some v) : ev X (d + 1) 236 (0, [some (.ref 116), some (.int a1), none], [], D, E) (qR none v E) := by
  have hq : kq_m 236 = some kq_q236 := rfl
  unfold g_M_lay at h
  refine gv_n hq 2 (S' := (2, [some (.ref 116), some (.int a1), some (.int (nI 0))], [], D, E)) rfl ?_
  exact gv_w (t_M_lay_2 X F d hd E F _ _ _ _ h) (And.intro rfl (And.intro rfl (And.intro rfl trivial)))
def b_M_sitters_4 (F : Nat) (D : mx_D) (k4 : Int32 → Int32 → Option (Int32)) (l1 : Int32) (l2 : Int32) : Option (Int32) := (if (D 117 4) ≤ l2 then (some l1) else (Option.bind (g_M_sits D l2) (fun r1 => (if r1 = 0 then (k4 (l1 ||| (nI 0)) (l2 + (nI 1))) else (k4 (l1 ||| ((nI 1) <<< (l2 &&& 31))) (l2 + (nI 1)))))))
set_option maxRecDepth 100000 in
set_option maxHeartbeats 4000000 in
theorem tb_M_sitters_4 (X : ev_X) (F : Nat) (d : Nat) (hd : 2 ≤ d + 1) (D : mx_D) (E : mx_E) (k4 : Int32 → Int32 → Option (Int32)) (K4 : ∀ (l1 : Int32) (l2 : Int32) (v : Int32), k4 l1 l2 = some v → ev X (d + 1) 237 (4, [some (.ref 116), some (.int l1), some (.int l2)], [], D, E) (qR (some (.int v)) D E)) (l1 : Int32) (l2 : Int32) (v : Int32) (h : b_M_sitters_4 F D k4 l1 l2 = some v) : ev X (d + 1) 237 (4, [some (.ref 116), some (.int l1), some (.int l2)], [], D, E) (qR (some (.int v)) D E) := by
  have hq : kq_m 237 = some kq_q237 := rfl
  unfold b_M_sitters_4 at h
  refine gv_n hq 5 (S' := (11, [some (.ref 116), some (.int l1), some (.int l2)], [.int (D 117 4), .int l2], D, E)) rfl ?_
  refine gv_b hq rfl h 38 14 rfl rfl rfl (fun h => ?_) (fun h => ?_)
  · refine gv_n hq 1 (S' := (39, [some (.ref 116), some (.int l1), some (.int l2)], [.int l1], D, E)) rfl ?_
    cases h
    exact ev_ret hq rfl rfl ⟨rfl, rfl, rfl⟩
  · refine gv_n hq 3 (S' := (17, [some (.ref 116), some (.int l1), some (.int l2)], [.int l2, .ref 116, .int l1], D, E)) rfl ?_
    obtain ⟨r1, h1, h⟩ := Option.bind_eq_some_iff.mp h
    refine gv_d hq rfl rfl rfl rfl rfl (gv_dd (by omega) (t_M_sits X (d - 1) (by omega) D E _ _ h1)) (S' := (20, [some (.ref 116), some (.int l1), some (.int l2)], [.int r1, .int l1], D, E)) rfl ?_
    refine gv_b hq rfl h 29 23 rfl rfl rfl (fun h => ?_) (fun h => ?_)
    · refine gv_n hq 5 (S' := (4, [some (.ref 116), some (.int (l1 ||| (nI 0))), some (.int (l2 + (nI 1)))], [], D, E)) rfl ?_
      exact gv_w (K4 _ _ _ h) (And.intro rfl (And.intro rfl (And.intro rfl trivial)))
    · refine gv_n hq 8 (S' := (4, [some (.ref 116), some (.int (l1 ||| ((nI 1) <<< (l2 &&& 31)))), some (.int (l2 + (nI 1)))], [], D, E)) rfl ?_
      exact gv_w (K4 _ _ _ h) (And.intro rfl (And.intro rfl (And.intro rfl trivial)))
def g_M_sitters_4 (F : Nat) (D : mx_D) : Nat → Int32 → Int32 → Option (Int32) := it (fun k4 => b_M_sitters_4 F D k4) (fun _ _ => none)
set_option maxRecDepth 100000 in
set_option maxHeartbeats 4000000 in
theorem t_M_sitters_4 (X : ev_X) (F : Nat) (d : Nat) (hd : 2 ≤ d + 1) (D : mx_D) (E : mx_E)  : ∀ (n : Nat) (l1 : Int32) (l2 : Int32) (v : Int32), g_M_sitters_4 F D n l1 l2 = some v → ev X (d + 1) 237 (4, [some (.ref 116), some (.int l1), some (.int l2)], [], D, E) (qR (some (.int v)) D E) := by
  intro n
  induction n with
  | zero => intro l1 l2 v h; cases h
  | succ n ih => intro l1 l2 v h; exact tb_M_sitters_4 X F d hd D E (g_M_sitters_4 F D n) ih l1 l2 v h
def g_M_sitters (F : Nat) (D : mx_D) : Option (Int32) := (g_M_sitters_4 F D F (nI 0) (nI 0))
set_option maxRecDepth 100000 in
set_option maxHeartbeats 4000000 in
theorem t_M_sitters (X : ev_X) (F : Nat) (d : Nat) (hd : 2 ≤ d + 1) (D : mx_D) (E : mx_E) (v : Int32) (h : g_M_sitters F D = some v) : ev X (d + 1) 237 (0, [some (.ref 116), none, none], [], D, E) (qR (some (.int v)) D E) := by
  have hq : kq_m 237 = some kq_q237 := rfl
  unfold g_M_sitters at h
  refine gv_n hq 4 (S' := (4, [some (.ref 116), some (.int (nI 0)), some (.int (nI 0))], [], D, E)) rfl ?_
  exact gv_w (t_M_sitters_4 X F d hd D E F _ _ _ h) (And.intro rfl (And.intro rfl (And.intro rfl trivial)))
def b_M_spreadOf_64 (F : Nat) (D : mx_D) (l1 : Int32) (l2 : Int32) (l3 : Int32) : Option (Int32) := (Option.bind (g_M_bits F l1) (fun r1 => (if (nI 2) ≤ r1 then (some (l3 - l2)) else (some (nI 0)))))
set_option maxRecDepth 100000 in
set_option maxHeartbeats 4000000 in
theorem tb_M_spreadOf_64 (X : ev_X) (F : Nat) (d : Nat) (hd : 1 ≤ d + 1) (D : mx_D) (E : mx_E)  (l1 : Int32) (l2 : Int32) (l3 : Int32) (v : Int32) (h : b_M_spreadOf_64 F D l1 l2 l3 = some v) : ev X (d + 1) 238 (64, [none, some (.int l1), some (.int l2), some (.int l3), none], [], D, E) (qR (some (.int v)) D E) := by
  have hq : kq_m 238 = some kq_q238 := rfl
  unfold b_M_spreadOf_64 at h
  refine gv_n hq 1 (S' := (65, [none, some (.int l1), some (.int l2), some (.int l3), none], [.int l1], D, E)) rfl ?_
  obtain ⟨r1, h1, h⟩ := Option.bind_eq_some_iff.mp h
  refine gv_d hq rfl rfl rfl rfl rfl ((t_M_bits X F d D E _ _ h1)) (S' := (68, [none, some (.int l1), some (.int l2), some (.int l3), none], [.int r1], D, E)) rfl ?_
  refine gv_n hq 1 (S' := (69, [none, some (.int l1), some (.int l2), some (.int l3), none], [.int (nI 2), .int r1], D, E)) rfl ?_
  refine gv_b hq rfl h 76 72 rfl rfl rfl (fun h => ?_) (fun h => ?_)
  · refine gv_n hq 3 (S' := (79, [none, some (.int l1), some (.int l2), some (.int l3), none], [.int (l3 - l2)], D, E)) rfl ?_
    cases h
    exact ev_ret hq rfl rfl ⟨rfl, rfl, rfl⟩
  · refine gv_n hq 2 (S' := (79, [none, some (.int l1), some (.int l2), some (.int l3), none], [.int (nI 0)], D, E)) rfl ?_
    cases h
    exact ev_ret hq rfl rfl ⟨rfl, rfl, rfl⟩
def b_M_spreadOf_11 (F : Nat) (D : mx_D) (k11 : Int32 → Int32 → Int32 → Int32 → Option (Int32)) (l1 : Int32) (l2 : Int32) (l3 : Int32) (l4 : Int32) : Option (Int32) := (if (D 117 4) ≤ l4 then (b_M_spreadOf_64 F D l1 l2 l3) else (if ((l1 >>> (l4 &&& 31)) &&& (nI 1)) = 0 then (k11 l1 l2 l3 (l4 + (nI 1))) else (rk 8 l4 (rk 8 l4 (k11 l1 (imn l2 (D 123 (l4).toNatClampNeg)) (imx l3 (D 123 (l4).toNatClampNeg)) (l4 + (nI 1)))))))
set_option maxRecDepth 100000 in
set_option maxHeartbeats 4000000 in
theorem tb_M_spreadOf_11 (X : ev_X) (F : Nat) (d : Nat) (hd : 1 ≤ d + 1) (D : mx_D) (E : mx_E) (k11 : Int32 → Int32 → Int32 → Int32 → Option (Int32)) (K11 : ∀ (l1 : Int32) (l2 : Int32) (l3 : Int32) (l4 : Int32) (v : Int32), k11 l1 l2 l3 l4 = some v → ev X (d + 1) 238 (11, [some (.ref 116), some (.int l1), some (.int l2), some (.int l3), some (.int l4)], [], D, E) (qR (some (.int v)) D E)) (l1 : Int32) (l2 : Int32) (l3 : Int32) (l4 : Int32) (v : Int32) (h : b_M_spreadOf_11 F D k11 l1 l2 l3 l4 = some v) : ev X (d + 1) 238 (11, [some (.ref 116), some (.int l1), some (.int l2), some (.int l3), some (.int l4)], [], D, E) (qR (some (.int v)) D E) := by
  have hq : kq_m 238 = some kq_q238 := rfl
  unfold b_M_spreadOf_11 at h
  refine gv_n hq 5 (S' := (19, [some (.ref 116), some (.int l1), some (.int l2), some (.int l3), some (.int l4)], [.int (D 117 4), .int l4], D, E)) rfl ?_
  refine gv_b hq rfl h 64 22 rfl rfl rfl (fun h => ?_) (fun h => ?_)
  · exact gv_w (tb_M_spreadOf_64 X F d hd D E _ _ _ _ h) (And.intro rfl (And.intro rfl (And.intro rfl trivial)))
  · refine gv_n hq 5 (S' := (28, [some (.ref 116), some (.int l1), some (.int l2), some (.int l3), some (.int l4)], [.int ((l1 >>> (l4 &&& 31)) &&& (nI 1))], D, E)) rfl ?_
    refine gv_b hq rfl h 31 34 rfl rfl rfl (fun h => ?_) (fun h => ?_)
    · refine gv_n hq 3 (S' := (11, [some (.ref 116), some (.int l1), some (.int l2), some (.int l3), some (.int (l4 + (nI 1)))], [], D, E)) rfl ?_
      exact gv_w (K11 _ _ _ _ _ h) (And.intro rfl (And.intro rfl (And.intro rfl (And.intro rfl (And.intro rfl trivial)))))
    · refine gv_n hq 4 (S' := (41, [some (.ref 116), some (.int l1), some (.int l2), some (.int l3), some (.int l4)], [.int l4, .ref 123, .int l2], D, E)) rfl ?_
      refine gv_ia hq rfl rfl rfl h 42 rfl (fun h => ?_)
      refine gv_n hq 6 (S' := (53, [some (.ref 116), some (.int l1), some (.int (imn l2 (D 123 (l4).toNatClampNeg))), some (.int l3), some (.int l4)], [.int l4, .ref 123, .int l3], D, E)) rfl ?_
      refine gv_ia hq rfl rfl rfl h 54 rfl (fun h => ?_)
      refine gv_n hq 4 (S' := (11, [some (.ref 116), some (.int l1), some (.int (imn l2 (D 123 (l4).toNatClampNeg))), some (.int (imx l3 (D 123 (l4).toNatClampNeg))), some (.int (l4 + (nI 1)))], [], D, E)) rfl ?_
      exact gv_w (K11 _ _ _ _ _ h) (And.intro rfl (And.intro rfl (And.intro rfl (And.intro rfl (And.intro rfl trivial)))))
def g_M_spreadOf_11 (F : Nat) (D : mx_D) : Nat → Int32 → Int32 → Int32 → Int32 → Option (Int32) := it (fun k11 => b_M_spreadOf_11 F D k11) (fun _ _ _ _ => none)
set_option maxRecDepth 100000 in
set_option maxHeartbeats 4000000 in
theorem t_M_spreadOf_11 (X : ev_X) (F : Nat) (d : Nat) (hd : 1 ≤ d + 1) (D : mx_D) (E : mx_E)  : ∀ (n : Nat) (l1 : Int32) (l2 : Int32) (l3 : Int32) (l4 : Int32) (v : Int32), g_M_spreadOf_11 F D n l1 l2 l3 l4 = some v → ev X (d + 1) 238 (11, [some (.ref 116), some (.int l1), some (.int l2), some (.int l3), some (.int l4)], [], D, E) (qR (some (.int v)) D E) := by
  intro n
  induction n with
  | zero => intro l1 l2 l3 l4 v h; cases h
  | succ n ih => intro l1 l2 l3 l4 v h; exact tb_M_spreadOf_11 X F d hd D E (g_M_spreadOf_11 F D n) ih l1 l2 l3 l4 v h
def g_M_spreadOf (F : Nat) (D : mx_D) (a1 : Int32) : Option (Int32) := (g_M_spreadOf_11 F D F a1 (nI 1000000) (-1000000 : Int32) (nI 0))
set_option maxRecDepth 100000 in
set_option maxHeartbeats 4000000 in
theorem t_M_spreadOf (X : ev_X) (F : Nat) (d : Nat) (hd : 1 ≤ d + 1) (D : mx_D) (E : mx_E) (a1 : Int32) (v : Int32) (h : g_M_spreadOf F D a1 = some v) : ev X (d + 1) 238 (0, [some (.ref 116), some (.int a1), none, none, none], [], D, E) (qR (some (.int v)) D E) := by
  have hq : kq_m 238 = some kq_q238 := rfl
  unfold g_M_spreadOf at h
  refine gv_n hq 6 (S' := (11, [some (.ref 116), some (.int a1), some (.int (nI 1000000)), some (.int (-1000000 : Int32)), some (.int (nI 0))], [], D, E)) rfl ?_
  exact gv_w (t_M_spreadOf_11 X F d hd D E F _ _ _ _ _ h) (And.intro rfl (And.intro rfl (And.intro rfl (And.intro rfl (And.intro rfl trivial)))))
