/-! ===== pictures of the methods and the rows that tie them to their frames, printed by a program of mine ===== -/
def g_Tape_hasRoom (D : mx_D) : Int32 := (if (nI 1400) < ((D 1 1) + (nI 20)) then (nI 0) else (nI 1))
set_option maxRecDepth 100000 in
set_option maxHeartbeats 4000000 in
theorem t_Tape_hasRoom (X : ev_X) (d : Nat) (D : mx_D) (E : mx_E) (v : Int32) (h : g_Tape_hasRoom D = v) : ev X d 102 (0, [some (.ref 1)], [], D, E) (qR (some (.int v)) D E) := by
  have hq : kq_m 102 = some kq_q102 := rfl
  unfold g_Tape_hasRoom at h
  refine gv_n hq 5 (S' := (10, [some (.ref 1)], [.int (nI 1400), .int ((D 1 1) + (nI 20))], D, E)) rfl ?_
  refine gv_b hq rfl h 17 13 rfl rfl rfl (fun h => ?_) (fun h => ?_)
  · refine gv_n hq 1 (S' := (18, [some (.ref 1)], [.int (nI 0)], D, E)) rfl ?_
    subst h
    exact ev_ret hq rfl rfl ⟨rfl, rfl, rfl⟩
  · refine gv_n hq 2 (S' := (18, [some (.ref 1)], [.int (nI 1)], D, E)) rfl ?_
    subst h
    exact ev_ret hq rfl rfl ⟨rfl, rfl, rfl⟩
theorem z_Tape_hasRoom (D : mx_D) : g_Tape_hasRoom D = 0 ∨ g_Tape_hasRoom D = 1 := by
  unfold g_Tape_hasRoom
  (repeat' split) <;> first | exact Or.inl rfl | exact Or.inr rfl
def b_Tape_add_3 (F : Nat) (k3 : Int32 → Int32 → mx_D → Option (mx_D)) (l1 : Int32) (l2 : Int32) (D : mx_D) : Option (mx_D) := (if l2 < 0 then (some D) else (if (nI 1400) ≤ (D 1 1) then (some D) else (rk 1400 (D 1 1) (k3 l1 (l2 + (-8 : Int32)) (sD (sD D 2 ((D 1 1)).toNatClampNeg (vp_nar .byte (((l1 >>> (l2 &&& 31))).toInt8.toInt32))) 1 1 (((sD D 2 ((D 1 1)).toNatClampNeg (vp_nar .byte (((l1 >>> (l2 &&& 31))).toInt8.toInt32))) 1 1) + (nI 1)))))))
set_option maxRecDepth 100000 in
set_option maxHeartbeats 4000000 in
theorem tb_Tape_add_3 (X : ev_X) (F : Nat) (d : Nat) (E : mx_E) (k3 : Int32 → Int32 → mx_D → Option (mx_D)) (K3 : ∀ (l1 : Int32) (l2 : Int32) (D : mx_D) (v : mx_D), k3 l1 l2 D = some v → ev X d 103 (3, [some (.ref 1), some (.int l1), some (.int l2)], [], D, E) (qR none v E)) (l1 : Int32) (l2 : Int32) (D : mx_D) (v : mx_D) (h : b_Tape_add_3 F k3 l1 l2 D = some v) : ev X d 103 (3, [some (.ref 1), some (.int l1), some (.int l2)], [], D, E) (qR none v E) := by
  have hq : kq_m 103 = some kq_q103 := rfl
  unfold b_Tape_add_3 at h
  refine gv_n hq 1 (S' := (4, [some (.ref 1), some (.int l1), some (.int l2)], [.int l2], D, E)) rfl ?_
  refine gv_b hq rfl h 46 7 rfl rfl rfl (fun h => ?_) (fun h => ?_)
  · cases h
    exact ev_ret hq rfl rfl ⟨rfl, rfl, rfl⟩
  · refine gv_n hq 3 (S' := (14, [some (.ref 1), some (.int l1), some (.int l2)], [.int (nI 1400), .int (D 1 1)], D, E)) rfl ?_
    refine gv_b hq rfl h 46 17 rfl rfl rfl (fun h => ?_) (fun h => ?_)
    · cases h
      exact ev_ret hq rfl rfl ⟨rfl, rfl, rfl⟩
    · refine gv_n hq 8 (S' := (29, [some (.ref 1), some (.int l1), some (.int l2)], [.int (((l1 >>> (l2 &&& 31))).toInt8.toInt32), .int (D 1 1), .ref 2], D, E)) rfl ?_
      refine gv_bs1 hq rfl rfl h 30 rfl (fun h => ?_)
      refine gv_n hq 8 (S' := (3, [some (.ref 1), some (.int l1), some (.int (l2 + (-8 : Int32)))], [], (sD (sD D 2 ((D 1 1)).toNatClampNeg (vp_nar .byte (((l1 >>> (l2 &&& 31))).toInt8.toInt32))) 1 1 (((sD D 2 ((D 1 1)).toNatClampNeg (vp_nar .byte (((l1 >>> (l2 &&& 31))).toInt8.toInt32))) 1 1) + (nI 1))), E)) rfl ?_
      exact gv_w (K3 _ _ _ _ h) (And.intro rfl (And.intro rfl (And.intro rfl trivial)))
def g_Tape_add_3 (F : Nat) : Nat → Int32 → Int32 → mx_D → Option (mx_D) := it (fun k3 => b_Tape_add_3 F k3) (fun _ _ _ => none)
set_option maxRecDepth 100000 in
set_option maxHeartbeats 4000000 in
theorem t_Tape_add_3 (X : ev_X) (F : Nat) (d : Nat) (E : mx_E)  : ∀ (n : Nat) (l1 : Int32) (l2 : Int32) (D : mx_D) (v : mx_D), g_Tape_add_3 F n l1 l2 D = some v → ev X d 103 (3, [some (.ref 1), some (.int l1), some (.int l2)], [], D, E) (qR none v E) := by
  intro n
  induction n with
  | zero => intro l1 l2 D v h; cases h
  | succ n ih => intro l1 l2 D v h; exact tb_Tape_add_3 X F d E (g_Tape_add_3 F n) ih l1 l2 D v h
def g_Tape_add (F : Nat) (a1 : Int32) (D : mx_D) : Option (mx_D) := (g_Tape_add_3 F F a1 (nI 24) D)
set_option maxRecDepth 100000 in
set_option maxHeartbeats 4000000 in
theorem t_Tape_add (X : ev_X) (F : Nat) (d : Nat) (E : mx_E) (a1 : Int32) (D : mx_D) (v : mx_D) (h : g_Tape_add F a1 D = some v) : ev X d 103 (0, [some (.ref 1), some (.int a1), none], [], D, E) (qR none v E) := by
  have hq : kq_m 103 = some kq_q103 := rfl
  unfold g_Tape_add at h
  refine gv_n hq 2 (S' := (3, [some (.ref 1), some (.int a1), some (.int (nI 24))], [], D, E)) rfl ?_
  exact gv_w (t_Tape_add_3 X F d E F _ _ _ _ h) (And.intro rfl (And.intro rfl (And.intro rfl trivial)))
def g_X_feed (F : Nat) (a1 : Int32) (a2 : Int32) (a3 : Int32) (a4 : Int32) (a5 : Int32) (D : mx_D) : Option (Int32 × mx_D) := (if (g_Tape_hasRoom D) = 0 then (some ((-1 : Int32), D)) else (Option.bind (g_Tape_add F a1 D) (fun r1 => (Option.bind (g_Tape_add F a2 r1) (fun r2 => (Option.bind (g_Tape_add F a3 r2) (fun r3 => (Option.bind (g_Tape_add F a4 r3) (fun r4 => (Option.bind (g_Tape_add F a5 r4) (fun r5 => (some ((r5 1 1), r5)))))))))))))
set_option maxRecDepth 100000 in
set_option maxHeartbeats 4000000 in
theorem t_X_feed (X : ev_X) (F : Nat) (d : Nat) (hd : 1 ≤ d + 1) (E : mx_E) (a1 : Int32) (a2 : Int32) (a3 : Int32) (a4 : Int32) (a5 : Int32) (D : mx_D) (v : Int32 × mx_D) (h : g_X_feed F a1 a2 a3 a4 a5 D = some v) : ev X (d + 1) 105 (0, [some (.ref 0), some (.int a1), some (.int a2), some (.int a3), some (.int a4), some (.int a5)], [], D, E) (qR (some (.int v.1)) v.2 E) := by
  have hq : kq_m 105 = some kq_q105 := rfl
  unfold g_X_feed at h
  refine gv_n hq 2 (S' := (4, [some (.ref 0), some (.int a1), some (.int a2), some (.int a3), some (.int a4), some (.int a5)], [.ref 1], D, E)) rfl ?_
  refine gv_d hq rfl rfl rfl rfl rfl ((t_Tape_hasRoom X d D E _ rfl)) (S' := (7, [some (.ref 0), some (.int a1), some (.int a2), some (.int a3), some (.int a4), some (.int a5)], [.int (g_Tape_hasRoom D)], D, E)) rfl ?_
  refine gv_b hq rfl h 10 12 rfl rfl rfl (fun h => ?_) (fun h => ?_)
  · refine gv_n hq 1 (S' := (11, [some (.ref 0), some (.int a1), some (.int a2), some (.int a3), some (.int a4), some (.int a5)], [.int (-1 : Int32)], D, E)) rfl ?_
    cases h
    exact ev_ret hq rfl rfl ⟨rfl, rfl, rfl⟩
  · refine gv_n hq 3 (S' := (17, [some (.ref 0), some (.int a1), some (.int a2), some (.int a3), some (.int a4), some (.int a5)], [.int a1, .ref 1], D, E)) rfl ?_
    obtain ⟨r1, h1, h⟩ := Option.bind_eq_some_iff.mp h
    refine gv_d hq rfl rfl rfl rfl rfl ((t_Tape_add X F d E _ _ _ h1)) (S' := (20, [some (.ref 0), some (.int a1), some (.int a2), some (.int a3), some (.int a4), some (.int a5)], [], r1, E)) rfl ?_
    refine gv_n hq 3 (S' := (25, [some (.ref 0), some (.int a1), some (.int a2), some (.int a3), some (.int a4), some (.int a5)], [.int a2, .ref 1], r1, E)) rfl ?_
    obtain ⟨r2, h1, h⟩ := Option.bind_eq_some_iff.mp h
    refine gv_d hq rfl rfl rfl rfl rfl ((t_Tape_add X F d E _ _ _ h1)) (S' := (28, [some (.ref 0), some (.int a1), some (.int a2), some (.int a3), some (.int a4), some (.int a5)], [], r2, E)) rfl ?_
    refine gv_n hq 3 (S' := (33, [some (.ref 0), some (.int a1), some (.int a2), some (.int a3), some (.int a4), some (.int a5)], [.int a3, .ref 1], r2, E)) rfl ?_
    obtain ⟨r3, h1, h⟩ := Option.bind_eq_some_iff.mp h
    refine gv_d hq rfl rfl rfl rfl rfl ((t_Tape_add X F d E _ _ _ h1)) (S' := (36, [some (.ref 0), some (.int a1), some (.int a2), some (.int a3), some (.int a4), some (.int a5)], [], r3, E)) rfl ?_
    refine gv_n hq 3 (S' := (42, [some (.ref 0), some (.int a1), some (.int a2), some (.int a3), some (.int a4), some (.int a5)], [.int a4, .ref 1], r3, E)) rfl ?_
    obtain ⟨r4, h1, h⟩ := Option.bind_eq_some_iff.mp h
    refine gv_d hq rfl rfl rfl rfl rfl ((t_Tape_add X F d E _ _ _ h1)) (S' := (45, [some (.ref 0), some (.int a1), some (.int a2), some (.int a3), some (.int a4), some (.int a5)], [], r4, E)) rfl ?_
    refine gv_n hq 3 (S' := (51, [some (.ref 0), some (.int a1), some (.int a2), some (.int a3), some (.int a4), some (.int a5)], [.int a5, .ref 1], r4, E)) rfl ?_
    obtain ⟨r5, h1, h⟩ := Option.bind_eq_some_iff.mp h
    refine gv_d hq rfl rfl rfl rfl rfl ((t_Tape_add X F d E _ _ _ h1)) (S' := (54, [some (.ref 0), some (.int a1), some (.int a2), some (.int a3), some (.int a4), some (.int a5)], [], r5, E)) rfl ?_
    refine gv_n hq 3 (S' := (61, [some (.ref 0), some (.int a1), some (.int a2), some (.int a3), some (.int a4), some (.int a5)], [.int (r5 1 1)], r5, E)) rfl ?_
    cases h
    exact ev_ret hq rfl rfl ⟨rfl, rfl, rfl⟩
def b_M_feed_55 (F : Nat) (k55 : Int32 → mx_D → Option (Int32 × mx_D)) (l6 : Int32) (D : mx_D) : Option (Int32 × mx_D) := (if (nI 20) ≤ l6 then (some (((sD D 116 5 ((D 116 5) + (nI 20))) 116 5), (sD D 116 5 ((D 116 5) + (nI 20))))) else (rk 5 (l6 / (nI 4)) (rk 1400 ((D 116 5) + l6) (k55 (l6 + (nI 1)) (sD D 120 (((D 116 5) + l6)).toNatClampNeg (vp_nar .byte ((((D 121 ((l6 / (nI 4))).toNatClampNeg) >>> (((nI 24) - ((nI 8) * (l6 - l6 / (nI 4) * (nI 4)))) &&& 31))).toInt8.toInt32)))))))
set_option maxRecDepth 100000 in
set_option maxHeartbeats 4000000 in
theorem tb_M_feed_55 (X : ev_X) (F : Nat) (d : Nat) (E : mx_E) (k55 : Int32 → mx_D → Option (Int32 × mx_D)) (K55 : ∀ (l6 : Int32) (D : mx_D) (v : Int32 × mx_D), k55 l6 D = some v → ev X d 185 (55, [some (.ref 116), none, none, none, none, none, some (.int l6)], [], D, E) (qR (some (.int v.1)) v.2 E)) (l6 : Int32) (D : mx_D) (v : Int32 × mx_D) (h : b_M_feed_55 F k55 l6 D = some v) : ev X d 185 (55, [some (.ref 116), none, none, none, none, none, some (.int l6)], [], D, E) (qR (some (.int v.1)) v.2 E) := by
  have hq : kq_m 185 = some kq_q185 := rfl
  unfold b_M_feed_55 at h
  refine gv_n hq 2 (S' := (59, [some (.ref 116), none, none, none, none, none, some (.int l6)], [.int (nI 20), .int l6], D, E)) rfl ?_
  refine gv_b hq rfl h 101 62 rfl rfl rfl (fun h => ?_) (fun h => ?_)
  · refine gv_n hq 8 (S' := (116, [some (.ref 116), none, none, none, none, none, some (.int l6)], [.int ((sD D 116 5 ((D 116 5) + (nI 20))) 116 5)], (sD D 116 5 ((D 116 5) + (nI 20))), E)) rfl ?_
    cases h
    exact ev_ret hq rfl rfl ⟨rfl, rfl, rfl⟩
  · refine gv_n hq 11 (S' := (81, [some (.ref 116), none, none, none, none, none, some (.int l6)], [.int (l6 / (nI 4)), .ref 121, .int ((D 116 5) + l6), .ref 120], D, E)) rfl ?_
    refine gv_ia hq rfl rfl rfl h 82 rfl (fun h => ?_)
    refine gv_n hq 9 (S' := (94, [some (.ref 116), none, none, none, none, none, some (.int l6)], [.int ((((D 121 ((l6 / (nI 4))).toNatClampNeg) >>> (((nI 24) - ((nI 8) * (l6 - l6 / (nI 4) * (nI 4)))) &&& 31))).toInt8.toInt32), .int ((D 116 5) + l6), .ref 120], D, E)) rfl ?_
    refine gv_bs1 hq rfl rfl h 95 rfl (fun h => ?_)
    refine gv_n hq 2 (S' := (55, [some (.ref 116), none, none, none, none, none, some (.int (l6 + (nI 1)))], [], (sD D 120 (((D 116 5) + l6)).toNatClampNeg (vp_nar .byte ((((D 121 ((l6 / (nI 4))).toNatClampNeg) >>> (((nI 24) - ((nI 8) * (l6 - l6 / (nI 4) * (nI 4)))) &&& 31))).toInt8.toInt32))), E)) rfl ?_
    exact gv_w (K55 _ _ _ h) (And.intro rfl (And.intro rfl trivial))
def g_M_feed_55 (F : Nat) : Nat → Int32 → mx_D → Option (Int32 × mx_D) := it (fun k55 => b_M_feed_55 F k55) (fun _ _ => none)
set_option maxRecDepth 100000 in
set_option maxHeartbeats 4000000 in
theorem t_M_feed_55 (X : ev_X) (F : Nat) (d : Nat) (E : mx_E)  : ∀ (n : Nat) (l6 : Int32) (D : mx_D) (v : Int32 × mx_D), g_M_feed_55 F n l6 D = some v → ev X d 185 (55, [some (.ref 116), none, none, none, none, none, some (.int l6)], [], D, E) (qR (some (.int v.1)) v.2 E) := by
  intro n
  induction n with
  | zero => intro l6 D v h; cases h
  | succ n ih => intro l6 D v h; exact tb_M_feed_55 X F d E (g_M_feed_55 F n) ih l6 D v h
def g_M_feed (F : Nat) (a1 : Int32) (a2 : Int32) (a3 : Int32) (a4 : Int32) (a5 : Int32) (D : mx_D) : Option (Int32 × mx_D) := (if ((D 116 5) + (nI 20)) ≤ (nI 1400) then (g_M_feed_55 F F (nI 0) (sD (sD (sD (sD (sD D 121 0 a1) 121 1 a2) 121 2 a3) 121 3 a4) 121 4 a5)) else (some ((-1 : Int32), D)))
set_option maxRecDepth 100000 in
set_option maxHeartbeats 4000000 in
theorem t_M_feed (X : ev_X) (F : Nat) (d : Nat) (E : mx_E) (a1 : Int32) (a2 : Int32) (a3 : Int32) (a4 : Int32) (a5 : Int32) (D : mx_D) (v : Int32 × mx_D) (h : g_M_feed F a1 a2 a3 a4 a5 D = some v) : ev X d 185 (0, [some (.ref 116), some (.int a1), some (.int a2), some (.int a3), some (.int a4), some (.int a5), none], [], D, E) (qR (some (.int v.1)) v.2 E) := by
  have hq : kq_m 185 = some kq_q185 := rfl
  unfold g_M_feed at h
  refine gv_n hq 5 (S' := (10, [some (.ref 116), some (.int a1), some (.int a2), some (.int a3), some (.int a4), some (.int a5), none], [.int (nI 1400), .int ((D 116 5) + (nI 20))], D, E)) rfl ?_
  refine gv_b hq rfl h 15 13 rfl rfl rfl (fun h => ?_) (fun h => ?_)
  · refine gv_n hq 27 (S' := (55, [some (.ref 116), some (.int a1), some (.int a2), some (.int a3), some (.int a4), some (.int a5), some (.int (nI 0))], [], (sD (sD (sD (sD (sD D 121 0 a1) 121 1 a2) 121 2 a3) 121 3 a4) 121 4 a5), E)) rfl ?_
    exact gv_w (t_M_feed_55 X F d E F _ _ _ h) (And.intro rfl (And.intro rfl trivial))
  · refine gv_n hq 1 (S' := (14, [some (.ref 116), some (.int a1), some (.int a2), some (.int a3), some (.int a4), some (.int a5), none], [.int (-1 : Int32)], D, E)) rfl ?_
    cases h
    exact ev_ret hq rfl rfl ⟨rfl, rfl, rfl⟩
def g_X_end (a1 : Int32) (D : mx_D) : Int32 × mx_D := (if a1 < 0 then ((-1 : Int32), D) else (if a1 ≤ (D 1 1) then (a1, (sD D 1 1 a1)) else ((-1 : Int32), D)))
set_option maxRecDepth 100000 in
set_option maxHeartbeats 4000000 in
theorem t_X_end (X : ev_X) (d : Nat) (E : mx_E) (a1 : Int32) (D : mx_D) (v : Int32 × mx_D) (h : g_X_end a1 D = v) : ev X d 106 (0, [some (.ref 0), some (.int a1)], [], D, E) (qR (some (.int v.1)) v.2 E) := by
  have hq : kq_m 106 = some kq_q106 := rfl
  unfold g_X_end at h
  refine gv_n hq 1 (S' := (1, [some (.ref 0), some (.int a1)], [.int a1], D, E)) rfl ?_
  refine gv_b hq rfl h 15 4 rfl rfl rfl (fun h => ?_) (fun h => ?_)
  · refine gv_n hq 1 (S' := (16, [some (.ref 0), some (.int a1)], [.int (-1 : Int32)], D, E)) rfl ?_
    subst h
    exact ev_ret hq rfl rfl ⟨rfl, rfl, rfl⟩
  · refine gv_n hq 4 (S' := (12, [some (.ref 0), some (.int a1)], [.int (D 1 1), .int a1], D, E)) rfl ?_
    refine gv_b hq rfl h 17 15 rfl rfl rfl (fun h => ?_) (fun h => ?_)
    · refine gv_n hq 5 (S' := (26, [some (.ref 0), some (.int a1)], [.int a1], (sD D 1 1 a1), E)) rfl ?_
      subst h
      exact ev_ret hq rfl rfl ⟨rfl, rfl, rfl⟩
    · refine gv_n hq 1 (S' := (16, [some (.ref 0), some (.int a1)], [.int (-1 : Int32)], D, E)) rfl ?_
      subst h
      exact ev_ret hq rfl rfl ⟨rfl, rfl, rfl⟩
def g_M_in (a0 : Int64) (a2 : Int64) (a4 : Int64) : Int32 := (if (lg_cmp a0 a2) < 0 then (nI 0) else (if 0 < (lg_cmp a0 a4) then (nI 0) else (nI 1)))
set_option maxRecDepth 100000 in
set_option maxHeartbeats 4000000 in
theorem t_M_in (X : ev_X) (d : Nat) (D : mx_D) (E : mx_E) (a0 : Int64) (a2 : Int64) (a4 : Int64) (v : Int32) (h : g_M_in a0 a2 a4 = v) : ev X d 183 (0, [some (.long a0), none, some (.long a2), none, some (.long a4), none], [], D, E) (qR (some (.int v)) D E) := by
  have hq : kq_m 183 = some kq_q183 := rfl
  unfold g_M_in at h
  refine gv_n hq 3 (S' := (3, [some (.long a0), none, some (.long a2), none, some (.long a4), none], [.int (lg_cmp a0 a2)], D, E)) rfl ?_
  refine gv_b hq rfl h 17 6 rfl rfl rfl (fun h => ?_) (fun h => ?_)
  · refine gv_n hq 1 (S' := (18, [some (.long a0), none, some (.long a2), none, some (.long a4), none], [.int (nI 0)], D, E)) rfl ?_
    subst h
    exact ev_ret hq rfl rfl ⟨rfl, rfl, rfl⟩
  · refine gv_n hq 3 (S' := (10, [some (.long a0), none, some (.long a2), none, some (.long a4), none], [.int (lg_cmp a0 a4)], D, E)) rfl ?_
    refine gv_b hq rfl h 17 13 rfl rfl rfl (fun h => ?_) (fun h => ?_)
    · refine gv_n hq 1 (S' := (18, [some (.long a0), none, some (.long a2), none, some (.long a4), none], [.int (nI 0)], D, E)) rfl ?_
      subst h
      exact ev_ret hq rfl rfl ⟨rfl, rfl, rfl⟩
    · refine gv_n hq 2 (S' := (18, [some (.long a0), none, some (.long a2), none, some (.long a4), none], [.int (nI 1)], D, E)) rfl ?_
      subst h
      exact ev_ret hq rfl rfl ⟨rfl, rfl, rfl⟩
theorem z_M_in (a0 : Int64) (a2 : Int64) (a4 : Int64) : g_M_in a0 a2 a4 = 0 ∨ g_M_in a0 a2 a4 = 1 := by
  unfold g_M_in
  (repeat' split) <;> first | exact Or.inl rfl | exact Or.inr rfl
def g_M_end (a1 : Int32) (D : mx_D) : Int32 × mx_D := (if (g_M_in ((a1).toInt64) (lN 0) (((D 116 5)).toInt64)) = 0 then ((-1 : Int32), D) else (a1, (sD D 116 5 a1)))
set_option maxRecDepth 100000 in
set_option maxHeartbeats 4000000 in
theorem t_M_end (X : ev_X) (d : Nat) (hd : 1 ≤ d + 1) (E : mx_E) (a1 : Int32) (D : mx_D) (v : Int32 × mx_D) (h : g_M_end a1 D = v) : ev X (d + 1) 186 (0, [some (.ref 116), some (.int a1)], [], D, E) (qR (some (.int v.1)) v.2 E) := by
  have hq : kq_m 186 = some kq_q186 := rfl
  unfold g_M_end at h
  refine gv_n hq 6 (S' := (8, [some (.ref 116), some (.int a1)], [.long (((D 116 5)).toInt64), .long (lN 0), .long ((a1).toInt64)], D, E)) rfl ?_
  refine gv_d hq rfl rfl rfl rfl rfl ((t_M_in X d D E _ _ _ _ rfl)) (S' := (11, [some (.ref 116), some (.int a1)], [.int (g_M_in ((a1).toInt64) (lN 0) (((D 116 5)).toInt64))], D, E)) rfl ?_
  refine gv_b hq rfl h 14 16 rfl rfl rfl (fun h => ?_) (fun h => ?_)
  · refine gv_n hq 1 (S' := (15, [some (.ref 116), some (.int a1)], [.int (-1 : Int32)], D, E)) rfl ?_
    subst h
    exact ev_ret hq rfl rfl ⟨rfl, rfl, rfl⟩
  · refine gv_n hq 4 (S' := (22, [some (.ref 116), some (.int a1)], [.int a1], (sD D 116 5 a1), E)) rfl ?_
    subst h
    exact ev_ret hq rfl rfl ⟨rfl, rfl, rfl⟩
def b_Arrays_fill_5_5 (F : Nat) (k5 : Int32 → Int32 → Int32 → mx_D → Option (mx_D)) (l1 : Int32) (l2 : Int32) (l3 : Int32) (D : mx_D) : Option (mx_D) := (if l3 ≤ l2 then (some D) else (rk 4 l2 (k5 l1 (l2 + (nI 1)) l3 (sD D 5 (l2).toNatClampNeg l1))))
set_option maxRecDepth 100000 in
set_option maxHeartbeats 4000000 in
theorem tb_Arrays_fill_5_5 (X : ev_X) (F : Nat) (d : Nat) (E : mx_E) (k5 : Int32 → Int32 → Int32 → mx_D → Option (mx_D)) (K5 : ∀ (l1 : Int32) (l2 : Int32) (l3 : Int32) (D : mx_D) (v : mx_D), k5 l1 l2 l3 D = some v → ev X d 333 (5, [some (.ref 5), some (.int l1), some (.int l2), some (.int l3)], [], D, E) (qR none v E)) (l1 : Int32) (l2 : Int32) (l3 : Int32) (D : mx_D) (v : mx_D) (h : b_Arrays_fill_5_5 F k5 l1 l2 l3 D = some v) : ev X d 333 (5, [some (.ref 5), some (.int l1), some (.int l2), some (.int l3)], [], D, E) (qR none v E) := by
  have hq : kq_m 333 = some kq_q333 := rfl
  unfold b_Arrays_fill_5_5 at h
  refine gv_n hq 2 (S' := (7, [some (.ref 5), some (.int l1), some (.int l2), some (.int l3)], [.int l3, .int l2], D, E)) rfl ?_
  refine gv_b hq rfl h 20 10 rfl rfl rfl (fun h => ?_) (fun h => ?_)
  · cases h
    exact ev_ret hq rfl rfl ⟨rfl, rfl, rfl⟩
  · refine gv_n hq 3 (S' := (13, [some (.ref 5), some (.int l1), some (.int l2), some (.int l3)], [.int l1, .int l2, .ref 5], D, E)) rfl ?_
    refine gv_is hq rfl rfl h 14 rfl (fun h => ?_)
    refine gv_n hq 2 (S' := (5, [some (.ref 5), some (.int l1), some (.int (l2 + (nI 1))), some (.int l3)], [], (sD D 5 (l2).toNatClampNeg l1), E)) rfl ?_
    exact gv_w (K5 _ _ _ _ _ h) (And.intro rfl (And.intro rfl (And.intro rfl (And.intro rfl trivial))))
def g_Arrays_fill_5_5 (F : Nat) : Nat → Int32 → Int32 → Int32 → mx_D → Option (mx_D) := it (fun k5 => b_Arrays_fill_5_5 F k5) (fun _ _ _ _ => none)
set_option maxRecDepth 100000 in
set_option maxHeartbeats 4000000 in
theorem t_Arrays_fill_5_5 (X : ev_X) (F : Nat) (d : Nat) (E : mx_E)  : ∀ (n : Nat) (l1 : Int32) (l2 : Int32) (l3 : Int32) (D : mx_D) (v : mx_D), g_Arrays_fill_5_5 F n l1 l2 l3 D = some v → ev X d 333 (5, [some (.ref 5), some (.int l1), some (.int l2), some (.int l3)], [], D, E) (qR none v E) := by
  intro n
  induction n with
  | zero => intro l1 l2 l3 D v h; cases h
  | succ n ih => intro l1 l2 l3 D v h; exact tb_Arrays_fill_5_5 X F d E (g_Arrays_fill_5_5 F n) ih l1 l2 l3 D v h
def g_Arrays_fill_5 (F : Nat) (a1 : Int32) (D : mx_D) : Option (mx_D) := (g_Arrays_fill_5_5 F F a1 (nI 0) (nI 4) D)
set_option maxRecDepth 100000 in
set_option maxHeartbeats 4000000 in
theorem t_Arrays_fill_5 (X : ev_X) (F : Nat) (d : Nat) (E : mx_E) (a1 : Int32) (D : mx_D) (v : mx_D) (h : g_Arrays_fill_5 F a1 D = some v) : ev X d 333 (0, [some (.ref 5), some (.int a1), none, none], [], D, E) (qR none v E) := by
  have hq : kq_m 333 = some kq_q333 := rfl
  unfold g_Arrays_fill_5 at h
  refine gv_n hq 5 (S' := (5, [some (.ref 5), some (.int a1), some (.int (nI 0)), some (.int (nI 4))], [], D, E)) rfl ?_
  exact gv_w (t_Arrays_fill_5_5 X F d E F _ _ _ _ _ h) (And.intro rfl (And.intro rfl (And.intro rfl (And.intro rfl trivial))))
def b_Arrays_fill_6_5 (F : Nat) (k5 : Int32 → Int32 → Int32 → mx_D → Option (mx_D)) (l1 : Int32) (l2 : Int32) (l3 : Int32) (D : mx_D) : Option (mx_D) := (if l3 ≤ l2 then (some D) else (rk 4 l2 (k5 l1 (l2 + (nI 1)) l3 (sD D 6 (l2).toNatClampNeg l1))))
set_option maxRecDepth 100000 in
set_option maxHeartbeats 4000000 in
theorem tb_Arrays_fill_6_5 (X : ev_X) (F : Nat) (d : Nat) (E : mx_E) (k5 : Int32 → Int32 → Int32 → mx_D → Option (mx_D)) (K5 : ∀ (l1 : Int32) (l2 : Int32) (l3 : Int32) (D : mx_D) (v : mx_D), k5 l1 l2 l3 D = some v → ev X d 333 (5, [some (.ref 6), some (.int l1), some (.int l2), some (.int l3)], [], D, E) (qR none v E)) (l1 : Int32) (l2 : Int32) (l3 : Int32) (D : mx_D) (v : mx_D) (h : b_Arrays_fill_6_5 F k5 l1 l2 l3 D = some v) : ev X d 333 (5, [some (.ref 6), some (.int l1), some (.int l2), some (.int l3)], [], D, E) (qR none v E) := by
  have hq : kq_m 333 = some kq_q333 := rfl
  unfold b_Arrays_fill_6_5 at h
  refine gv_n hq 2 (S' := (7, [some (.ref 6), some (.int l1), some (.int l2), some (.int l3)], [.int l3, .int l2], D, E)) rfl ?_
  refine gv_b hq rfl h 20 10 rfl rfl rfl (fun h => ?_) (fun h => ?_)
  · cases h
    exact ev_ret hq rfl rfl ⟨rfl, rfl, rfl⟩
  · refine gv_n hq 3 (S' := (13, [some (.ref 6), some (.int l1), some (.int l2), some (.int l3)], [.int l1, .int l2, .ref 6], D, E)) rfl ?_
    refine gv_is hq rfl rfl h 14 rfl (fun h => ?_)
    refine gv_n hq 2 (S' := (5, [some (.ref 6), some (.int l1), some (.int (l2 + (nI 1))), some (.int l3)], [], (sD D 6 (l2).toNatClampNeg l1), E)) rfl ?_
    exact gv_w (K5 _ _ _ _ _ h) (And.intro rfl (And.intro rfl (And.intro rfl (And.intro rfl trivial))))
def g_Arrays_fill_6_5 (F : Nat) : Nat → Int32 → Int32 → Int32 → mx_D → Option (mx_D) := it (fun k5 => b_Arrays_fill_6_5 F k5) (fun _ _ _ _ => none)
set_option maxRecDepth 100000 in
set_option maxHeartbeats 4000000 in
theorem t_Arrays_fill_6_5 (X : ev_X) (F : Nat) (d : Nat) (E : mx_E)  : ∀ (n : Nat) (l1 : Int32) (l2 : Int32) (l3 : Int32) (D : mx_D) (v : mx_D), g_Arrays_fill_6_5 F n l1 l2 l3 D = some v → ev X d 333 (5, [some (.ref 6), some (.int l1), some (.int l2), some (.int l3)], [], D, E) (qR none v E) := by
  intro n
  induction n with
  | zero => intro l1 l2 l3 D v h; cases h
  | succ n ih => intro l1 l2 l3 D v h; exact tb_Arrays_fill_6_5 X F d E (g_Arrays_fill_6_5 F n) ih l1 l2 l3 D v h
def g_Arrays_fill_6 (F : Nat) (a1 : Int32) (D : mx_D) : Option (mx_D) := (g_Arrays_fill_6_5 F F a1 (nI 0) (nI 4) D)
set_option maxRecDepth 100000 in
set_option maxHeartbeats 4000000 in
theorem t_Arrays_fill_6 (X : ev_X) (F : Nat) (d : Nat) (E : mx_E) (a1 : Int32) (D : mx_D) (v : mx_D) (h : g_Arrays_fill_6 F a1 D = some v) : ev X d 333 (0, [some (.ref 6), some (.int a1), none, none], [], D, E) (qR none v E) := by
  have hq : kq_m 333 = some kq_q333 := rfl
  unfold g_Arrays_fill_6 at h
  refine gv_n hq 5 (S' := (5, [some (.ref 6), some (.int a1), some (.int (nI 0)), some (.int (nI 4))], [], D, E)) rfl ?_
  exact gv_w (t_Arrays_fill_6_5 X F d E F _ _ _ _ _ h) (And.intro rfl (And.intro rfl (And.intro rfl (And.intro rfl trivial))))
def b_Arrays_fill_7_5 (F : Nat) (k5 : Int32 → Int32 → Int32 → mx_D → Option (mx_D)) (l1 : Int32) (l2 : Int32) (l3 : Int32) (D : mx_D) : Option (mx_D) := (if l3 ≤ l2 then (some D) else (rk 4 l2 (k5 l1 (l2 + (nI 1)) l3 (sD D 7 (l2).toNatClampNeg l1))))
set_option maxRecDepth 100000 in
set_option maxHeartbeats 4000000 in
theorem tb_Arrays_fill_7_5 (X : ev_X) (F : Nat) (d : Nat) (E : mx_E) (k5 : Int32 → Int32 → Int32 → mx_D → Option (mx_D)) (K5 : ∀ (l1 : Int32) (l2 : Int32) (l3 : Int32) (D : mx_D) (v : mx_D), k5 l1 l2 l3 D = some v → ev X d 333 (5, [some (.ref 7), some (.int l1), some (.int l2), some (.int l3)], [], D, E) (qR none v E)) (l1 : Int32) (l2 : Int32) (l3 : Int32) (D : mx_D) (v : mx_D) (h : b_Arrays_fill_7_5 F k5 l1 l2 l3 D = some v) : ev X d 333 (5, [some (.ref 7), some (.int l1), some (.int l2), some (.int l3)], [], D, E) (qR none v E) := by
  have hq : kq_m 333 = some kq_q333 := rfl
  unfold b_Arrays_fill_7_5 at h
  refine gv_n hq 2 (S' := (7, [some (.ref 7), some (.int l1), some (.int l2), some (.int l3)], [.int l3, .int l2], D, E)) rfl ?_
  refine gv_b hq rfl h 20 10 rfl rfl rfl (fun h => ?_) (fun h => ?_)
  · cases h
    exact ev_ret hq rfl rfl ⟨rfl, rfl, rfl⟩
  · refine gv_n hq 3 (S' := (13, [some (.ref 7), some (.int l1), some (.int l2), some (.int l3)], [.int l1, .int l2, .ref 7], D, E)) rfl ?_
    refine gv_is hq rfl rfl h 14 rfl (fun h => ?_)
    refine gv_n hq 2 (S' := (5, [some (.ref 7), some (.int l1), some (.int (l2 + (nI 1))), some (.int l3)], [], (sD D 7 (l2).toNatClampNeg l1), E)) rfl ?_
    exact gv_w (K5 _ _ _ _ _ h) (And.intro rfl (And.intro rfl (And.intro rfl (And.intro rfl trivial))))
def g_Arrays_fill_7_5 (F : Nat) : Nat → Int32 → Int32 → Int32 → mx_D → Option (mx_D) := it (fun k5 => b_Arrays_fill_7_5 F k5) (fun _ _ _ _ => none)
set_option maxRecDepth 100000 in
set_option maxHeartbeats 4000000 in
theorem t_Arrays_fill_7_5 (X : ev_X) (F : Nat) (d : Nat) (E : mx_E)  : ∀ (n : Nat) (l1 : Int32) (l2 : Int32) (l3 : Int32) (D : mx_D) (v : mx_D), g_Arrays_fill_7_5 F n l1 l2 l3 D = some v → ev X d 333 (5, [some (.ref 7), some (.int l1), some (.int l2), some (.int l3)], [], D, E) (qR none v E) := by
  intro n
  induction n with
  | zero => intro l1 l2 l3 D v h; cases h
  | succ n ih => intro l1 l2 l3 D v h; exact tb_Arrays_fill_7_5 X F d E (g_Arrays_fill_7_5 F n) ih l1 l2 l3 D v h
def g_Arrays_fill_7 (F : Nat) (a1 : Int32) (D : mx_D) : Option (mx_D) := (g_Arrays_fill_7_5 F F a1 (nI 0) (nI 4) D)
set_option maxRecDepth 100000 in
set_option maxHeartbeats 4000000 in
theorem t_Arrays_fill_7 (X : ev_X) (F : Nat) (d : Nat) (E : mx_E) (a1 : Int32) (D : mx_D) (v : mx_D) (h : g_Arrays_fill_7 F a1 D = some v) : ev X d 333 (0, [some (.ref 7), some (.int a1), none, none], [], D, E) (qR none v E) := by
  have hq : kq_m 333 = some kq_q333 := rfl
  unfold g_Arrays_fill_7 at h
  refine gv_n hq 5 (S' := (5, [some (.ref 7), some (.int a1), some (.int (nI 0)), some (.int (nI 4))], [], D, E)) rfl ?_
  exact gv_w (t_Arrays_fill_7_5 X F d E F _ _ _ _ _ h) (And.intro rfl (And.intro rfl (And.intro rfl (And.intro rfl trivial))))
def b_Arrays_fill_8_5 (F : Nat) (k5 : Int32 → Int32 → Int32 → mx_D → Option (mx_D)) (l1 : Int32) (l2 : Int32) (l3 : Int32) (D : mx_D) : Option (mx_D) := (if l3 ≤ l2 then (some D) else (rk 20 l2 (k5 l1 (l2 + (nI 1)) l3 (sD D 8 (l2).toNatClampNeg l1))))
set_option maxRecDepth 100000 in
set_option maxHeartbeats 4000000 in
theorem tb_Arrays_fill_8_5 (X : ev_X) (F : Nat) (d : Nat) (E : mx_E) (k5 : Int32 → Int32 → Int32 → mx_D → Option (mx_D)) (K5 : ∀ (l1 : Int32) (l2 : Int32) (l3 : Int32) (D : mx_D) (v : mx_D), k5 l1 l2 l3 D = some v → ev X d 333 (5, [some (.ref 8), some (.int l1), some (.int l2), some (.int l3)], [], D, E) (qR none v E)) (l1 : Int32) (l2 : Int32) (l3 : Int32) (D : mx_D) (v : mx_D) (h : b_Arrays_fill_8_5 F k5 l1 l2 l3 D = some v) : ev X d 333 (5, [some (.ref 8), some (.int l1), some (.int l2), some (.int l3)], [], D, E) (qR none v E) := by
  have hq : kq_m 333 = some kq_q333 := rfl
  unfold b_Arrays_fill_8_5 at h
  refine gv_n hq 2 (S' := (7, [some (.ref 8), some (.int l1), some (.int l2), some (.int l3)], [.int l3, .int l2], D, E)) rfl ?_
  refine gv_b hq rfl h 20 10 rfl rfl rfl (fun h => ?_) (fun h => ?_)
  · cases h
    exact ev_ret hq rfl rfl ⟨rfl, rfl, rfl⟩
  · refine gv_n hq 3 (S' := (13, [some (.ref 8), some (.int l1), some (.int l2), some (.int l3)], [.int l1, .int l2, .ref 8], D, E)) rfl ?_
    refine gv_is hq rfl rfl h 14 rfl (fun h => ?_)
    refine gv_n hq 2 (S' := (5, [some (.ref 8), some (.int l1), some (.int (l2 + (nI 1))), some (.int l3)], [], (sD D 8 (l2).toNatClampNeg l1), E)) rfl ?_
    exact gv_w (K5 _ _ _ _ _ h) (And.intro rfl (And.intro rfl (And.intro rfl (And.intro rfl trivial))))
def g_Arrays_fill_8_5 (F : Nat) : Nat → Int32 → Int32 → Int32 → mx_D → Option (mx_D) := it (fun k5 => b_Arrays_fill_8_5 F k5) (fun _ _ _ _ => none)
set_option maxRecDepth 100000 in
set_option maxHeartbeats 4000000 in
theorem t_Arrays_fill_8_5 (X : ev_X) (F : Nat) (d : Nat) (E : mx_E)  : ∀ (n : Nat) (l1 : Int32) (l2 : Int32) (l3 : Int32) (D : mx_D) (v : mx_D), g_Arrays_fill_8_5 F n l1 l2 l3 D = some v → ev X d 333 (5, [some (.ref 8), some (.int l1), some (.int l2), some (.int l3)], [], D, E) (qR none v E) := by
  intro n
  induction n with
  | zero => intro l1 l2 l3 D v h; cases h
  | succ n ih => intro l1 l2 l3 D v h; exact tb_Arrays_fill_8_5 X F d E (g_Arrays_fill_8_5 F n) ih l1 l2 l3 D v h
def g_Arrays_fill_8 (F : Nat) (a1 : Int32) (D : mx_D) : Option (mx_D) := (g_Arrays_fill_8_5 F F a1 (nI 0) (nI 20) D)
set_option maxRecDepth 100000 in
set_option maxHeartbeats 4000000 in
theorem t_Arrays_fill_8 (X : ev_X) (F : Nat) (d : Nat) (E : mx_E) (a1 : Int32) (D : mx_D) (v : mx_D) (h : g_Arrays_fill_8 F a1 D = some v) : ev X d 333 (0, [some (.ref 8), some (.int a1), none, none], [], D, E) (qR none v E) := by
  have hq : kq_m 333 = some kq_q333 := rfl
  unfold g_Arrays_fill_8 at h
  refine gv_n hq 5 (S' := (5, [some (.ref 8), some (.int a1), some (.int (nI 0)), some (.int (nI 20))], [], D, E)) rfl ?_
  exact gv_w (t_Arrays_fill_8_5 X F d E F _ _ _ _ _ h) (And.intro rfl (And.intro rfl (And.intro rfl (And.intro rfl trivial))))
def b_Arrays_fill_18_5 (F : Nat) (k5 : Int32 → Int32 → Int32 → mx_D → Option (mx_D)) (l1 : Int32) (l2 : Int32) (l3 : Int32) (D : mx_D) : Option (mx_D) := (if l3 ≤ l2 then (some D) else (rk 5 l2 (k5 l1 (l2 + (nI 1)) l3 (sD D 18 (l2).toNatClampNeg l1))))
set_option maxRecDepth 100000 in
set_option maxHeartbeats 4000000 in
theorem tb_Arrays_fill_18_5 (X : ev_X) (F : Nat) (d : Nat) (E : mx_E) (k5 : Int32 → Int32 → Int32 → mx_D → Option (mx_D)) (K5 : ∀ (l1 : Int32) (l2 : Int32) (l3 : Int32) (D : mx_D) (v : mx_D), k5 l1 l2 l3 D = some v → ev X d 333 (5, [some (.ref 18), some (.int l1), some (.int l2), some (.int l3)], [], D, E) (qR none v E)) (l1 : Int32) (l2 : Int32) (l3 : Int32) (D : mx_D) (v : mx_D) (h : b_Arrays_fill_18_5 F k5 l1 l2 l3 D = some v) : ev X d 333 (5, [some (.ref 18), some (.int l1), some (.int l2), some (.int l3)], [], D, E) (qR none v E) := by
  have hq : kq_m 333 = some kq_q333 := rfl
  unfold b_Arrays_fill_18_5 at h
  refine gv_n hq 2 (S' := (7, [some (.ref 18), some (.int l1), some (.int l2), some (.int l3)], [.int l3, .int l2], D, E)) rfl ?_
  refine gv_b hq rfl h 20 10 rfl rfl rfl (fun h => ?_) (fun h => ?_)
  · cases h
    exact ev_ret hq rfl rfl ⟨rfl, rfl, rfl⟩
  · refine gv_n hq 3 (S' := (13, [some (.ref 18), some (.int l1), some (.int l2), some (.int l3)], [.int l1, .int l2, .ref 18], D, E)) rfl ?_
    refine gv_is hq rfl rfl h 14 rfl (fun h => ?_)
    refine gv_n hq 2 (S' := (5, [some (.ref 18), some (.int l1), some (.int (l2 + (nI 1))), some (.int l3)], [], (sD D 18 (l2).toNatClampNeg l1), E)) rfl ?_
    exact gv_w (K5 _ _ _ _ _ h) (And.intro rfl (And.intro rfl (And.intro rfl (And.intro rfl trivial))))
def g_Arrays_fill_18_5 (F : Nat) : Nat → Int32 → Int32 → Int32 → mx_D → Option (mx_D) := it (fun k5 => b_Arrays_fill_18_5 F k5) (fun _ _ _ _ => none)
set_option maxRecDepth 100000 in
set_option maxHeartbeats 4000000 in
theorem t_Arrays_fill_18_5 (X : ev_X) (F : Nat) (d : Nat) (E : mx_E)  : ∀ (n : Nat) (l1 : Int32) (l2 : Int32) (l3 : Int32) (D : mx_D) (v : mx_D), g_Arrays_fill_18_5 F n l1 l2 l3 D = some v → ev X d 333 (5, [some (.ref 18), some (.int l1), some (.int l2), some (.int l3)], [], D, E) (qR none v E) := by
  intro n
  induction n with
  | zero => intro l1 l2 l3 D v h; cases h
  | succ n ih => intro l1 l2 l3 D v h; exact tb_Arrays_fill_18_5 X F d E (g_Arrays_fill_18_5 F n) ih l1 l2 l3 D v h
def g_Arrays_fill_18 (F : Nat) (a1 : Int32) (D : mx_D) : Option (mx_D) := (g_Arrays_fill_18_5 F F a1 (nI 0) (nI 5) D)
set_option maxRecDepth 100000 in
set_option maxHeartbeats 4000000 in
theorem t_Arrays_fill_18 (X : ev_X) (F : Nat) (d : Nat) (E : mx_E) (a1 : Int32) (D : mx_D) (v : mx_D) (h : g_Arrays_fill_18 F a1 D = some v) : ev X d 333 (0, [some (.ref 18), some (.int a1), none, none], [], D, E) (qR none v E) := by
  have hq : kq_m 333 = some kq_q333 := rfl
  unfold g_Arrays_fill_18 at h
  refine gv_n hq 5 (S' := (5, [some (.ref 18), some (.int a1), some (.int (nI 0)), some (.int (nI 5))], [], D, E)) rfl ?_
  exact gv_w (t_Arrays_fill_18_5 X F d E F _ _ _ _ _ h) (And.intro rfl (And.intro rfl (And.intro rfl (And.intro rfl trivial))))
def g_Church_clear_4 (F : Nat) (D : mx_D) : Option (mx_D) := (Option.bind (g_Arrays_fill_5 F (nI 0) (sD (sD (sD (sD (sD D 4 0 (nI 0)) 4 1 (nI 0)) 4 2 (nI 0)) 4 3 (nI 0)) 4 4 (nI 0))) (fun r1 => (Option.bind (g_Arrays_fill_6 F (nI 0) r1) (fun r2 => (Option.bind (g_Arrays_fill_7 F (nI 0) r2) (fun r3 => (Option.bind (g_Arrays_fill_8 F (nI 0) r3) (fun r4 => (Option.bind (g_Arrays_fill_18 F (-1 : Int32) (sD (sD (sD r4 9 6 (nI 0)) 4 10 (nI 0)) 4 12 (nI 0))) (fun r5 => (some r5)))))))))))
set_option maxRecDepth 100000 in
set_option maxHeartbeats 4000000 in
theorem t_Church_clear_4 (X : ev_X) (F : Nat) (d : Nat) (hd : 1 ≤ d + 1) (E : mx_E) (D : mx_D) (v : mx_D) (h : g_Church_clear_4 F D = some v) : ev X (d + 1) 8 (0, [some (.ref 4)], [], D, E) (qR none v E) := by
  have hq : kq_m 8 = some kq_q8 := rfl
  unfold g_Church_clear_4 at h
  refine gv_n hq 18 (S' := (30, [some (.ref 4)], [.int (nI 0), .ref 5], (sD (sD (sD (sD (sD D 4 0 (nI 0)) 4 1 (nI 0)) 4 2 (nI 0)) 4 3 (nI 0)) 4 4 (nI 0)), E)) rfl ?_
  obtain ⟨r1, h1, h⟩ := Option.bind_eq_some_iff.mp h
  refine gv_d hq rfl rfl rfl rfl rfl ((t_Arrays_fill_5 X F d E _ _ _ h1)) (S' := (33, [some (.ref 4)], [], r1, E)) rfl ?_
  refine gv_n hq 3 (S' := (38, [some (.ref 4)], [.int (nI 0), .ref 6], r1, E)) rfl ?_
  obtain ⟨r2, h1, h⟩ := Option.bind_eq_some_iff.mp h
  refine gv_d hq rfl rfl rfl rfl rfl ((t_Arrays_fill_6 X F d E _ _ _ h1)) (S' := (41, [some (.ref 4)], [], r2, E)) rfl ?_
  refine gv_n hq 3 (S' := (46, [some (.ref 4)], [.int (nI 0), .ref 7], r2, E)) rfl ?_
  obtain ⟨r3, h1, h⟩ := Option.bind_eq_some_iff.mp h
  refine gv_d hq rfl rfl rfl rfl rfl ((t_Arrays_fill_7 X F d E _ _ _ h1)) (S' := (49, [some (.ref 4)], [], r3, E)) rfl ?_
  refine gv_n hq 3 (S' := (54, [some (.ref 4)], [.int (nI 0), .ref 8], r3, E)) rfl ?_
  obtain ⟨r4, h1, h⟩ := Option.bind_eq_some_iff.mp h
  refine gv_d hq rfl rfl rfl rfl rfl ((t_Arrays_fill_8 X F d E _ _ _ h1)) (S' := (57, [some (.ref 4)], [], r4, E)) rfl ?_
  refine gv_n hq 13 (S' := (80, [some (.ref 4)], [.int (-1 : Int32), .ref 18], (sD (sD (sD r4 9 6 (nI 0)) 4 10 (nI 0)) 4 12 (nI 0)), E)) rfl ?_
  obtain ⟨r5, h1, h⟩ := Option.bind_eq_some_iff.mp h
  refine gv_d hq rfl rfl rfl rfl rfl ((t_Arrays_fill_18 X F d E _ _ _ h1)) (S' := (83, [some (.ref 4)], [], r5, E)) rfl ?_
  cases h
  exact ev_ret hq rfl rfl ⟨rfl, rfl, rfl⟩
def g_Reader_isLetter (a0 : Int32) : Int32 := (if a0 < (nI 97) then (nI 0) else (if (nI 122) < a0 then (nI 0) else (nI 1)))
set_option maxRecDepth 100000 in
set_option maxHeartbeats 4000000 in
theorem t_Reader_isLetter (X : ev_X) (d : Nat) (D : mx_D) (E : mx_E) (a0 : Int32) (v : Int32) (h : g_Reader_isLetter a0 = v) : ev X d 60 (0, [some (.int a0)], [], D, E) (qR (some (.int v)) D E) := by
  have hq : kq_m 60 = some kq_q60 := rfl
  unfold g_Reader_isLetter at h
  refine gv_n hq 2 (S' := (3, [some (.int a0)], [.int (nI 97), .int a0], D, E)) rfl ?_
  refine gv_b hq rfl h 16 6 rfl rfl rfl (fun h => ?_) (fun h => ?_)
  · refine gv_n hq 1 (S' := (17, [some (.int a0)], [.int (nI 0)], D, E)) rfl ?_
    subst h
    exact ev_ret hq rfl rfl ⟨rfl, rfl, rfl⟩
  · refine gv_n hq 2 (S' := (9, [some (.int a0)], [.int (nI 122), .int a0], D, E)) rfl ?_
    refine gv_b hq rfl h 16 12 rfl rfl rfl (fun h => ?_) (fun h => ?_)
    · refine gv_n hq 1 (S' := (17, [some (.int a0)], [.int (nI 0)], D, E)) rfl ?_
      subst h
      exact ev_ret hq rfl rfl ⟨rfl, rfl, rfl⟩
    · refine gv_n hq 2 (S' := (17, [some (.int a0)], [.int (nI 1)], D, E)) rfl ?_
      subst h
      exact ev_ret hq rfl rfl ⟨rfl, rfl, rfl⟩
theorem z_Reader_isLetter (a0 : Int32) : g_Reader_isLetter a0 = 0 ∨ g_Reader_isLetter a0 = 1 := by
  unfold g_Reader_isLetter
  (repeat' split) <;> first | exact Or.inl rfl | exact Or.inr rfl
def g_Reader_isDigit (a0 : Int32) : Int32 := (if a0 < (nI 48) then (nI 0) else (if (nI 57) < a0 then (nI 0) else (nI 1)))
set_option maxRecDepth 100000 in
set_option maxHeartbeats 4000000 in
theorem t_Reader_isDigit (X : ev_X) (d : Nat) (D : mx_D) (E : mx_E) (a0 : Int32) (v : Int32) (h : g_Reader_isDigit a0 = v) : ev X d 61 (0, [some (.int a0)], [], D, E) (qR (some (.int v)) D E) := by
  have hq : kq_m 61 = some kq_q61 := rfl
  unfold g_Reader_isDigit at h
  refine gv_n hq 2 (S' := (3, [some (.int a0)], [.int (nI 48), .int a0], D, E)) rfl ?_
  refine gv_b hq rfl h 16 6 rfl rfl rfl (fun h => ?_) (fun h => ?_)
  · refine gv_n hq 1 (S' := (17, [some (.int a0)], [.int (nI 0)], D, E)) rfl ?_
    subst h
    exact ev_ret hq rfl rfl ⟨rfl, rfl, rfl⟩
  · refine gv_n hq 2 (S' := (9, [some (.int a0)], [.int (nI 57), .int a0], D, E)) rfl ?_
    refine gv_b hq rfl h 16 12 rfl rfl rfl (fun h => ?_) (fun h => ?_)
    · refine gv_n hq 1 (S' := (17, [some (.int a0)], [.int (nI 0)], D, E)) rfl ?_
      subst h
      exact ev_ret hq rfl rfl ⟨rfl, rfl, rfl⟩
    · refine gv_n hq 2 (S' := (17, [some (.int a0)], [.int (nI 1)], D, E)) rfl ?_
      subst h
      exact ev_ret hq rfl rfl ⟨rfl, rfl, rfl⟩
theorem z_Reader_isDigit (a0 : Int32) : g_Reader_isDigit a0 = 0 ∨ g_Reader_isDigit a0 = 1 := by
  unfold g_Reader_isDigit
  (repeat' split) <;> first | exact Or.inl rfl | exact Or.inr rfl
def b_Reader_advance_187 (F : Nat) (k187 : mx_D → Option (mx_D)) (D : mx_D) : Option (mx_D) := (if (D 1 1) ≤ (D 3 4) then (some D) else (rk 1400 (D 3 4) (if (g_Reader_isDigit (D 2 ((D 3 4)).toNatClampNeg)) = 0 then (some D) else (rk 1400 (D 3 4) (k187 (sD (sD D 3 7 (imn (nI 100000) ((((nI 10) * (D 3 7)) + (D 2 ((D 3 4)).toNatClampNeg)) - (nI 48)))) 3 4 (((sD D 3 7 (imn (nI 100000) ((((nI 10) * (D 3 7)) + (D 2 ((D 3 4)).toNatClampNeg)) - (nI 48)))) 3 4) + (nI 1))))))))
set_option maxRecDepth 100000 in
set_option maxHeartbeats 4000000 in
theorem tb_Reader_advance_187 (X : ev_X) (F : Nat) (d : Nat) (hd : 1 ≤ d + 1) (E : mx_E) (k187 : mx_D → Option (mx_D)) (K187 : ∀ (D : mx_D) (v : mx_D), k187 D = some v → ev X (d + 1) 59 (187, [some (.ref 3)], [], D, E) (qR none v E)) (D : mx_D) (v : mx_D) (h : b_Reader_advance_187 F k187 D = some v) : ev X (d + 1) 59 (187, [some (.ref 3)], [], D, E) (qR none v E) := by
  have hq : kq_m 59 = some kq_q59 := rfl
  unfold b_Reader_advance_187 at h
  refine gv_n hq 5 (S' := (198, [some (.ref 3)], [.int (D 1 1), .int (D 3 4)], D, E)) rfl ?_
  refine gv_b hq rfl h 300 201 rfl rfl rfl (fun h => ?_) (fun h => ?_)
  · cases h
    exact ev_ret hq rfl rfl ⟨rfl, rfl, rfl⟩
  · refine gv_n hq 5 (S' := (212, [some (.ref 3)], [.int (D 3 4), .ref 2], D, E)) rfl ?_
    refine gv_ba1 hq rfl rfl h 213 rfl (fun h => ?_)
    refine gv_d hq rfl rfl rfl rfl rfl ((t_Reader_isDigit X d D E _ _ rfl)) (S' := (216, [some (.ref 3)], [.int (g_Reader_isDigit (D 2 ((D 3 4)).toNatClampNeg))], D, E)) rfl ?_
    refine gv_b hq rfl h 300 219 rfl rfl rfl (fun h => ?_) (fun h => ?_)
    · cases h
      exact ev_ret hq rfl rfl ⟨rfl, rfl, rfl⟩
    · refine gv_n hq 11 (S' := (240, [some (.ref 3)], [.int (D 3 4), .ref 2, .int ((nI 10) * (D 3 7)), .int (nI 100000), .ref 3], D, E)) rfl ?_
      refine gv_ba1 hq rfl rfl h 241 rfl (fun h => ?_)
      refine gv_n hq 12 (S' := (187, [some (.ref 3)], [], (sD (sD D 3 7 (imn (nI 100000) ((((nI 10) * (D 3 7)) + (D 2 ((D 3 4)).toNatClampNeg)) - (nI 48)))) 3 4 (((sD D 3 7 (imn (nI 100000) ((((nI 10) * (D 3 7)) + (D 2 ((D 3 4)).toNatClampNeg)) - (nI 48)))) 3 4) + (nI 1))), E)) rfl ?_
      exact gv_w (K187 _ _ h) (And.intro rfl trivial)
def g_Reader_advance_187 (F : Nat) : Nat → mx_D → Option (mx_D) := it (fun k187 => b_Reader_advance_187 F k187) (fun _ => none)
set_option maxRecDepth 100000 in
set_option maxHeartbeats 4000000 in
theorem t_Reader_advance_187 (X : ev_X) (F : Nat) (d : Nat) (hd : 1 ≤ d + 1) (E : mx_E)  : ∀ (n : Nat) (D : mx_D) (v : mx_D), g_Reader_advance_187 F n D = some v → ev X (d + 1) 59 (187, [some (.ref 3)], [], D, E) (qR none v E) := by
  intro n
  induction n with
  | zero => intro D v h; cases h
  | succ n ih => intro D v h; exact tb_Reader_advance_187 X F d hd E (g_Reader_advance_187 F n) ih D v h
def b_Reader_advance_114 (F : Nat) (k114 : mx_D → Option (mx_D)) (D : mx_D) : Option (mx_D) := (if (D 1 1) ≤ (D 3 4) then (some D) else (rk 1400 (D 3 4) (if (g_Reader_isLetter (D 2 ((D 3 4)).toNatClampNeg)) = 0 then (some D) else (k114 (sD D 3 4 ((D 3 4) + (nI 1)))))))
set_option maxRecDepth 100000 in
set_option maxHeartbeats 4000000 in
theorem tb_Reader_advance_114 (X : ev_X) (F : Nat) (d : Nat) (hd : 1 ≤ d + 1) (E : mx_E) (k114 : mx_D → Option (mx_D)) (K114 : ∀ (D : mx_D) (v : mx_D), k114 D = some v → ev X (d + 1) 59 (114, [some (.ref 3)], [], D, E) (qR none v E)) (D : mx_D) (v : mx_D) (h : b_Reader_advance_114 F k114 D = some v) : ev X (d + 1) 59 (114, [some (.ref 3)], [], D, E) (qR none v E) := by
  have hq : kq_m 59 = some kq_q59 := rfl
  unfold b_Reader_advance_114 at h
  refine gv_n hq 5 (S' := (125, [some (.ref 3)], [.int (D 1 1), .int (D 3 4)], D, E)) rfl ?_
  refine gv_b hq rfl h 300 128 rfl rfl rfl (fun h => ?_) (fun h => ?_)
  · cases h
    exact ev_ret hq rfl rfl ⟨rfl, rfl, rfl⟩
  · refine gv_n hq 5 (S' := (139, [some (.ref 3)], [.int (D 3 4), .ref 2], D, E)) rfl ?_
    refine gv_ba1 hq rfl rfl h 140 rfl (fun h => ?_)
    refine gv_d hq rfl rfl rfl rfl rfl ((t_Reader_isLetter X d D E _ _ rfl)) (S' := (143, [some (.ref 3)], [.int (g_Reader_isLetter (D 2 ((D 3 4)).toNatClampNeg))], D, E)) rfl ?_
    refine gv_b hq rfl h 300 146 rfl rfl rfl (fun h => ?_) (fun h => ?_)
    · cases h
      exact ev_ret hq rfl rfl ⟨rfl, rfl, rfl⟩
    · refine gv_n hq 7 (S' := (114, [some (.ref 3)], [], (sD D 3 4 ((D 3 4) + (nI 1))), E)) rfl ?_
      exact gv_w (K114 _ _ h) (And.intro rfl trivial)
def g_Reader_advance_114 (F : Nat) : Nat → mx_D → Option (mx_D) := it (fun k114 => b_Reader_advance_114 F k114) (fun _ => none)
set_option maxRecDepth 100000 in
set_option maxHeartbeats 4000000 in
theorem t_Reader_advance_114 (X : ev_X) (F : Nat) (d : Nat) (hd : 1 ≤ d + 1) (E : mx_E)  : ∀ (n : Nat) (D : mx_D) (v : mx_D), g_Reader_advance_114 F n D = some v → ev X (d + 1) 59 (114, [some (.ref 3)], [], D, E) (qR none v E) := by
  intro n
  induction n with
  | zero => intro D v h; cases h
  | succ n ih => intro D v h; exact tb_Reader_advance_114 X F d hd E (g_Reader_advance_114 F n) ih D v h
def b_Reader_advance_61 (F : Nat) (D : mx_D) : Option (mx_D) := (if ((sD D 3 6 (D 3 4)) 3 4) < ((sD D 3 6 (D 3 4)) 1 1) then (rk 1400 ((sD D 3 6 (D 3 4)) 3 4) (if (g_Reader_isLetter ((sD D 3 6 (D 3 4)) 2 (((sD D 3 6 (D 3 4)) 3 4)).toNatClampNeg)) = 0 then (rk 1400 ((sD D 3 6 (D 3 4)) 3 4) (if (g_Reader_isDigit ((sD D 3 6 (D 3 4)) 2 (((sD D 3 6 (D 3 4)) 3 4)).toNatClampNeg)) = 0 then (rk 1400 ((sD D 3 6 (D 3 4)) 3 4) (if ((sD D 3 6 (D 3 4)) 2 (((sD D 3 6 (D 3 4)) 3 4)).toNatClampNeg) = (nI 59) then (some (sD (sD (sD D 3 6 (D 3 4)) 3 5 (nI 3)) 3 4 (((sD (sD D 3 6 (D 3 4)) 3 5 (nI 3)) 3 4) + (nI 1)))) else (some (sD (sD (sD D 3 6 (D 3 4)) 3 5 (nI 4)) 3 4 (((sD (sD D 3 6 (D 3 4)) 3 5 (nI 4)) 3 4) + (nI 1)))))) else (g_Reader_advance_187 F F (sD (sD (sD D 3 6 (D 3 4)) 3 5 (nI 2)) 3 7 (nI 0))))) else (g_Reader_advance_114 F F (sD (sD D 3 6 (D 3 4)) 3 5 (nI 1))))) else (some (sD (sD D 3 6 (D 3 4)) 3 5 (nI 0))))
set_option maxRecDepth 100000 in
set_option maxHeartbeats 4000000 in
theorem tb_Reader_advance_61 (X : ev_X) (F : Nat) (d : Nat) (hd : 1 ≤ d + 1) (E : mx_E)  (D : mx_D) (v : mx_D) (h : b_Reader_advance_61 F D = some v) : ev X (d + 1) 59 (61, [some (.ref 3)], [], D, E) (qR none v E) := by
  have hq : kq_m 59 = some kq_q59 := rfl
  unfold b_Reader_advance_61 at h
  refine gv_n hq 9 (S' := (80, [some (.ref 3)], [.int ((sD D 3 6 (D 3 4)) 1 1), .int ((sD D 3 6 (D 3 4)) 3 4)], (sD D 3 6 (D 3 4)), E)) rfl ?_
  refine gv_b hq rfl h 91 83 rfl rfl rfl (fun h => ?_) (fun h => ?_)
  · refine gv_n hq 5 (S' := (102, [some (.ref 3)], [.int ((sD D 3 6 (D 3 4)) 3 4), .ref 2], (sD D 3 6 (D 3 4)), E)) rfl ?_
    refine gv_ba1 hq rfl rfl h 103 rfl (fun h => ?_)
    refine gv_d hq rfl rfl rfl rfl rfl ((t_Reader_isLetter X d (sD D 3 6 (D 3 4)) E _ _ rfl)) (S' := (106, [some (.ref 3)], [.int (g_Reader_isLetter ((sD D 3 6 (D 3 4)) 2 (((sD D 3 6 (D 3 4)) 3 4)).toNatClampNeg))], (sD D 3 6 (D 3 4)), E)) rfl ?_
    refine gv_b hq rfl h 159 109 rfl rfl rfl (fun h => ?_) (fun h => ?_)
    · refine gv_n hq 5 (S' := (170, [some (.ref 3)], [.int ((sD D 3 6 (D 3 4)) 3 4), .ref 2], (sD D 3 6 (D 3 4)), E)) rfl ?_
      refine gv_ba1 hq rfl rfl h 171 rfl (fun h => ?_)
      refine gv_d hq rfl rfl rfl rfl rfl ((t_Reader_isDigit X d (sD D 3 6 (D 3 4)) E _ _ rfl)) (S' := (174, [some (.ref 3)], [.int (g_Reader_isDigit ((sD D 3 6 (D 3 4)) 2 (((sD D 3 6 (D 3 4)) 3 4)).toNatClampNeg))], (sD D 3 6 (D 3 4)), E)) rfl ?_
      refine gv_b hq rfl h 264 177 rfl rfl rfl (fun h => ?_) (fun h => ?_)
      · refine gv_n hq 6 (S' := (276, [some (.ref 3)], [.int ((sD D 3 6 (D 3 4)) 3 4), .ref 2, .ref 3], (sD D 3 6 (D 3 4)), E)) rfl ?_
        refine gv_ba1 hq rfl rfl h 277 rfl (fun h => ?_)
        refine gv_n hq 1 (S' := (279, [some (.ref 3)], [.int (nI 59), .int ((sD D 3 6 (D 3 4)) 2 (((sD D 3 6 (D 3 4)) 3 4)).toNatClampNeg), .ref 3], (sD D 3 6 (D 3 4)), E)) rfl ?_
        refine gv_b hq rfl h 282 286 rfl rfl rfl (fun h => ?_) (fun h => ?_)
        · refine gv_n hq 9 (S' := (300, [some (.ref 3)], [], (sD (sD (sD D 3 6 (D 3 4)) 3 5 (nI 3)) 3 4 (((sD (sD D 3 6 (D 3 4)) 3 5 (nI 3)) 3 4) + (nI 1))), E)) rfl ?_
          cases h
          exact ev_ret hq rfl rfl ⟨rfl, rfl, rfl⟩
        · refine gv_n hq 8 (S' := (300, [some (.ref 3)], [], (sD (sD (sD D 3 6 (D 3 4)) 3 5 (nI 4)) 3 4 (((sD (sD D 3 6 (D 3 4)) 3 5 (nI 4)) 3 4) + (nI 1))), E)) rfl ?_
          cases h
          exact ev_ret hq rfl rfl ⟨rfl, rfl, rfl⟩
      · refine gv_n hq 6 (S' := (187, [some (.ref 3)], [], (sD (sD (sD D 3 6 (D 3 4)) 3 5 (nI 2)) 3 7 (nI 0)), E)) rfl ?_
        exact gv_w (t_Reader_advance_187 X F d hd E F _ _ h) (And.intro rfl trivial)
    · refine gv_n hq 3 (S' := (114, [some (.ref 3)], [], (sD (sD D 3 6 (D 3 4)) 3 5 (nI 1)), E)) rfl ?_
      exact gv_w (t_Reader_advance_114 X F d hd E F _ _ h) (And.intro rfl trivial)
  · refine gv_n hq 4 (S' := (300, [some (.ref 3)], [], (sD (sD D 3 6 (D 3 4)) 3 5 (nI 0)), E)) rfl ?_
    cases h
    exact ev_ret hq rfl rfl ⟨rfl, rfl, rfl⟩
def b_Reader_advance_0 (F : Nat) (k0 : mx_D → Option (mx_D)) (D : mx_D) : Option (mx_D) := (if (D 1 1) ≤ (D 3 4) then (b_Reader_advance_61 F D) else (rk 1400 (D 3 4) (if (D 2 ((D 3 4)).toNatClampNeg) = (nI 32) then (k0 (sD D 3 4 ((D 3 4) + (nI 1)))) else (rk 1400 (D 3 4) (if (D 2 ((D 3 4)).toNatClampNeg) = (nI 10) then (k0 (sD D 3 4 ((D 3 4) + (nI 1)))) else (b_Reader_advance_61 F D))))))
set_option maxRecDepth 100000 in
set_option maxHeartbeats 4000000 in
theorem tb_Reader_advance_0 (X : ev_X) (F : Nat) (d : Nat) (hd : 1 ≤ d + 1) (E : mx_E) (k0 : mx_D → Option (mx_D)) (K0 : ∀ (D : mx_D) (v : mx_D), k0 D = some v → ev X (d + 1) 59 (0, [some (.ref 3)], [], D, E) (qR none v E)) (D : mx_D) (v : mx_D) (h : b_Reader_advance_0 F k0 D = some v) : ev X (d + 1) 59 (0, [some (.ref 3)], [], D, E) (qR none v E) := by
  have hq : kq_m 59 = some kq_q59 := rfl
  unfold b_Reader_advance_0 at h
  refine gv_n hq 5 (S' := (11, [some (.ref 3)], [.int (D 1 1), .int (D 3 4)], D, E)) rfl ?_
  refine gv_b hq rfl h 61 14 rfl rfl rfl (fun h => ?_) (fun h => ?_)
  · exact gv_w (tb_Reader_advance_61 X F d hd E _ _ h) (And.intro rfl trivial)
  · refine gv_n hq 5 (S' := (25, [some (.ref 3)], [.int (D 3 4), .ref 2], D, E)) rfl ?_
    refine gv_ba1 hq rfl rfl h 26 rfl (fun h => ?_)
    refine gv_n hq 1 (S' := (28, [some (.ref 3)], [.int (nI 32), .int (D 2 ((D 3 4)).toNatClampNeg)], D, E)) rfl ?_
    refine gv_b hq rfl h 48 31 rfl rfl rfl (fun h => ?_) (fun h => ?_)
    · refine gv_n hq 7 (S' := (0, [some (.ref 3)], [], (sD D 3 4 ((D 3 4) + (nI 1))), E)) rfl ?_
      exact gv_w (K0 _ _ h) (And.intro rfl trivial)
    · refine gv_n hq 5 (S' := (42, [some (.ref 3)], [.int (D 3 4), .ref 2], D, E)) rfl ?_
      refine gv_ba1 hq rfl rfl h 43 rfl (fun h => ?_)
      refine gv_n hq 1 (S' := (45, [some (.ref 3)], [.int (nI 10), .int (D 2 ((D 3 4)).toNatClampNeg)], D, E)) rfl ?_
      refine gv_b hq rfl h 48 61 rfl rfl rfl (fun h => ?_) (fun h => ?_)
      · refine gv_n hq 7 (S' := (0, [some (.ref 3)], [], (sD D 3 4 ((D 3 4) + (nI 1))), E)) rfl ?_
        exact gv_w (K0 _ _ h) (And.intro rfl trivial)
      · exact gv_w (tb_Reader_advance_61 X F d hd E _ _ h) (And.intro rfl trivial)
def g_Reader_advance_0 (F : Nat) : Nat → mx_D → Option (mx_D) := it (fun k0 => b_Reader_advance_0 F k0) (fun _ => none)
set_option maxRecDepth 100000 in
set_option maxHeartbeats 4000000 in
theorem t_Reader_advance_0 (X : ev_X) (F : Nat) (d : Nat) (hd : 1 ≤ d + 1) (E : mx_E)  : ∀ (n : Nat) (D : mx_D) (v : mx_D), g_Reader_advance_0 F n D = some v → ev X (d + 1) 59 (0, [some (.ref 3)], [], D, E) (qR none v E) := by
  intro n
  induction n with
  | zero => intro D v h; cases h
  | succ n ih => intro D v h; exact tb_Reader_advance_0 X F d hd E (g_Reader_advance_0 F n) ih D v h
def g_Reader_advance (F : Nat) (D : mx_D) : Option (mx_D) := (g_Reader_advance_0 F F D)
set_option maxRecDepth 100000 in
set_option maxHeartbeats 4000000 in
theorem t_Reader_advance (X : ev_X) (F : Nat) (d : Nat) (hd : 1 ≤ d + 1) (E : mx_E) (D : mx_D) (v : mx_D) (h : g_Reader_advance F D = some v) : ev X (d + 1) 59 (0, [some (.ref 3)], [], D, E) (qR none v E) := by
  have hq : kq_m 59 = some kq_q59 := rfl
  unfold g_Reader_advance at h
  exact gv_w (t_Reader_advance_0 X F d hd E F _ _ h) (And.intro rfl trivial)
def b_Reader_isWord_28 (F : Nat) (D : mx_D) (k28 : Nat → Int32 → Option (Int32)) (l1 : Nat) (l2 : Int32) : Option (Int32) := (Option.bind (st_len l1) (fun r2 => (if r2 ≤ l2 then (some (nI 1)) else (rk 1400 ((D 3 6) + l2) (Option.bind (st_at l1 l2) (fun r3 => (if (D 2 (((D 3 6) + l2)).toNatClampNeg) = r3 then (k28 l1 (l2 + (nI 1))) else (some (nI 0)))))))))
set_option maxRecDepth 100000 in
set_option maxHeartbeats 4000000 in
theorem tb_Reader_isWord_28 (X : ev_X) (F : Nat) (d : Nat) (hd : 9 ≤ d + 1) (D : mx_D) (E : mx_E) (k28 : Nat → Int32 → Option (Int32)) (K28 : ∀ (l1 : Nat) (l2 : Int32) (v : Int32), k28 l1 l2 = some v → ev X (d + 1) 63 (28, [some (.ref 3), some (.ref l1), some (.int l2)], [], D, E) (qR (some (.int v)) D E)) (l1 : Nat) (l2 : Int32) (v : Int32) (h : b_Reader_isWord_28 F D k28 l1 l2 = some v) : ev X (d + 1) 63 (28, [some (.ref 3), some (.ref l1), some (.int l2)], [], D, E) (qR (some (.int v)) D E) := by
  have hq : kq_m 63 = some kq_q63 := rfl
  unfold b_Reader_isWord_28 at h
  refine gv_n hq 2 (S' := (30, [some (.ref 3), some (.ref l1), some (.int l2)], [.ref l1, .int l2], D, E)) rfl ?_
  obtain ⟨r2, h1, h⟩ := Option.bind_eq_some_iff.mp h
  refine gv_s hq rfl rfl (st_len_sp h1) (by omega) (S' := (33, [some (.ref 3), some (.ref l1), some (.int l2)], [.int r2, .int l2], D, E)) rfl ?_
  refine gv_b hq rfl h 66 36 rfl rfl rfl (fun h => ?_) (fun h => ?_)
  · refine gv_n hq 1 (S' := (67, [some (.ref 3), some (.ref l1), some (.int l2)], [.int (nI 1)], D, E)) rfl ?_
    cases h
    exact ev_ret hq rfl rfl ⟨rfl, rfl, rfl⟩
  · refine gv_n hq 7 (S' := (49, [some (.ref 3), some (.ref l1), some (.int l2)], [.int ((D 3 6) + l2), .ref 2], D, E)) rfl ?_
    refine gv_ba1 hq rfl rfl h 50 rfl (fun h => ?_)
    refine gv_n hq 2 (S' := (52, [some (.ref 3), some (.ref l1), some (.int l2)], [.int l2, .ref l1, .int (D 2 (((D 3 6) + l2)).toNatClampNeg)], D, E)) rfl ?_
    obtain ⟨r3, h1, h⟩ := Option.bind_eq_some_iff.mp h
    refine gv_s hq rfl rfl (st_at_sp h1) (by omega) (S' := (55, [some (.ref 3), some (.ref l1), some (.int l2)], [.int r3, .int (D 2 (((D 3 6) + l2)).toNatClampNeg)], D, E)) rfl ?_
    refine gv_b hq rfl h 60 58 rfl rfl rfl (fun h => ?_) (fun h => ?_)
    · refine gv_n hq 2 (S' := (28, [some (.ref 3), some (.ref l1), some (.int (l2 + (nI 1)))], [], D, E)) rfl ?_
      exact gv_w (K28 _ _ _ h) (And.intro rfl (And.intro rfl (And.intro rfl trivial)))
    · refine gv_n hq 1 (S' := (59, [some (.ref 3), some (.ref l1), some (.int l2)], [.int (nI 0)], D, E)) rfl ?_
      cases h
      exact ev_ret hq rfl rfl ⟨rfl, rfl, rfl⟩
def g_Reader_isWord_28 (F : Nat) (D : mx_D) : Nat → Nat → Int32 → Option (Int32) := it (fun k28 => b_Reader_isWord_28 F D k28) (fun _ _ => none)
set_option maxRecDepth 100000 in
set_option maxHeartbeats 4000000 in
theorem t_Reader_isWord_28 (X : ev_X) (F : Nat) (d : Nat) (hd : 9 ≤ d + 1) (D : mx_D) (E : mx_E)  : ∀ (n : Nat) (l1 : Nat) (l2 : Int32) (v : Int32), g_Reader_isWord_28 F D n l1 l2 = some v → ev X (d + 1) 63 (28, [some (.ref 3), some (.ref l1), some (.int l2)], [], D, E) (qR (some (.int v)) D E) := by
  intro n
  induction n with
  | zero => intro l1 l2 v h; cases h
  | succ n ih => intro l1 l2 v h; exact tb_Reader_isWord_28 X F d hd D E (g_Reader_isWord_28 F D n) ih l1 l2 v h
def g_Reader_isWord (F : Nat) (D : mx_D) (w1 : Nat) : Option (Int32) := (if (D 3 5) = (nI 1) then (Option.bind (st_len w1) (fun r1 => (if ((D 3 4) - (D 3 6)) = r1 then (g_Reader_isWord_28 F D F w1 (nI 0)) else (some (nI 0))))) else (some (nI 0)))
set_option maxRecDepth 100000 in
set_option maxHeartbeats 4000000 in
theorem t_Reader_isWord (X : ev_X) (F : Nat) (d : Nat) (hd : 9 ≤ d + 1) (D : mx_D) (E : mx_E) (w1 : Nat) (v : Int32) (h : g_Reader_isWord F D w1 = some v) : ev X (d + 1) 63 (0, [some (.ref 3), some (.ref w1), none], [], D, E) (qR (some (.int v)) D E) := by
  have hq : kq_m 63 = some kq_q63 := rfl
  unfold g_Reader_isWord at h
  refine gv_n hq 3 (S' := (5, [some (.ref 3), some (.ref w1), none], [.int (nI 1), .int (D 3 5)], D, E)) rfl ?_
  refine gv_b hq rfl h 8 24 rfl rfl rfl (fun h => ?_) (fun h => ?_)
  · refine gv_n hq 6 (S' := (18, [some (.ref 3), some (.ref w1), none], [.ref w1, .int ((D 3 4) - (D 3 6))], D, E)) rfl ?_
    obtain ⟨r1, h1, h⟩ := Option.bind_eq_some_iff.mp h
    refine gv_s hq rfl rfl (st_len_sp h1) (by omega) (S' := (21, [some (.ref 3), some (.ref w1), none], [.int r1, .int ((D 3 4) - (D 3 6))], D, E)) rfl ?_
    refine gv_b hq rfl h 26 24 rfl rfl rfl (fun h => ?_) (fun h => ?_)
    · refine gv_n hq 2 (S' := (28, [some (.ref 3), some (.ref w1), some (.int (nI 0))], [], D, E)) rfl ?_
      exact gv_w (t_Reader_isWord_28 X F d hd D E F _ _ _ h) (And.intro rfl (And.intro rfl (And.intro rfl trivial)))
    · refine gv_n hq 1 (S' := (25, [some (.ref 3), some (.ref w1), none], [.int (nI 0)], D, E)) rfl ?_
      cases h
      exact ev_ret hq rfl rfl ⟨rfl, rfl, rfl⟩
  · refine gv_n hq 1 (S' := (25, [some (.ref 3), some (.ref w1), none], [.int (nI 0)], D, E)) rfl ?_
    cases h
    exact ev_ret hq rfl rfl ⟨rfl, rfl, rfl⟩
def g_Reader_refuse (a1 : Int32) (a2 : Int32) (D : mx_D) : mx_D := (if (D 3 1) = 0 then (sD (sD D 3 1 a1) 3 2 a2) else D)
set_option maxRecDepth 100000 in
set_option maxHeartbeats 4000000 in
theorem t_Reader_refuse (X : ev_X) (d : Nat) (E : mx_E) (a1 : Int32) (a2 : Int32) (D : mx_D) (v : mx_D) (h : g_Reader_refuse a1 a2 D = v) : ev X d 64 (0, [some (.ref 3), some (.int a1), some (.int a2)], [], D, E) (qR none v E) := by
  have hq : kq_m 64 = some kq_q64 := rfl
  unfold g_Reader_refuse at h
  refine gv_n hq 2 (S' := (4, [some (.ref 3), some (.int a1), some (.int a2)], [.int (D 3 1)], D, E)) rfl ?_
  refine gv_b hq rfl h 7 17 rfl rfl rfl (fun h => ?_) (fun h => ?_)
  · refine gv_n hq 6 (S' := (17, [some (.ref 3), some (.int a1), some (.int a2)], [], (sD (sD D 3 1 a1) 3 2 a2), E)) rfl ?_
    subst h
    exact ev_ret hq rfl rfl ⟨rfl, rfl, rfl⟩
  · subst h
    exact ev_ret hq rfl rfl ⟨rfl, rfl, rfl⟩
def g_Reader_takeSign (F : Nat) (D : mx_D) : Option (mx_D) := (if (D 3 5) = (nI 3) then (Option.bind (g_Reader_advance F D) (fun r1 => (some r1))) else (Option.bind (g_Reader_advance F (g_Reader_refuse (nI 1) (D 3 6) D)) (fun r2 => (some r2))))
set_option maxRecDepth 100000 in
set_option maxHeartbeats 4000000 in
theorem t_Reader_takeSign (X : ev_X) (F : Nat) (d : Nat) (hd : 2 ≤ d + 1) (E : mx_E) (D : mx_D) (v : mx_D) (h : g_Reader_takeSign F D = some v) : ev X (d + 1) 77 (0, [some (.ref 3)], [], D, E) (qR none v E) := by
  have hq : kq_m 77 = some kq_q77 := rfl
  unfold g_Reader_takeSign at h
  refine gv_n hq 3 (S' := (5, [some (.ref 3)], [.int (nI 3), .int (D 3 5)], D, E)) rfl ?_
  refine gv_b hq rfl h 17 8 rfl rfl rfl (fun h => ?_) (fun h => ?_)
  · refine gv_n hq 1 (S' := (18, [some (.ref 3)], [.ref 3], D, E)) rfl ?_
    obtain ⟨r1, h1, h⟩ := Option.bind_eq_some_iff.mp h
    refine gv_d hq rfl rfl rfl rfl rfl (gv_dd (by omega) (t_Reader_advance X F (d - 1) (by omega) E _ _ h1)) (S' := (21, [some (.ref 3)], [], r1, E)) rfl ?_
    cases h
    exact ev_ret hq rfl rfl ⟨rfl, rfl, rfl⟩
  · refine gv_n hq 4 (S' := (14, [some (.ref 3)], [.int (D 3 6), .int (nI 1), .ref 3], D, E)) rfl ?_
    refine gv_d hq rfl rfl rfl rfl rfl ((t_Reader_refuse X d E _ _ _ _ rfl)) (S' := (17, [some (.ref 3)], [], (g_Reader_refuse (nI 1) (D 3 6) D), E)) rfl ?_
    refine gv_n hq 1 (S' := (18, [some (.ref 3)], [.ref 3], (g_Reader_refuse (nI 1) (D 3 6) D), E)) rfl ?_
    obtain ⟨r2, h1, h⟩ := Option.bind_eq_some_iff.mp h
    refine gv_d hq rfl rfl rfl rfl rfl (gv_dd (by omega) (t_Reader_advance X F (d - 1) (by omega) E _ _ h1)) (S' := (21, [some (.ref 3)], [], r2, E)) rfl ?_
    cases h
    exact ev_ret hq rfl rfl ⟨rfl, rfl, rfl⟩
def g_Reader_takeWord (F : Nat) (w1 : Nat) (D : mx_D) : Option (mx_D) := (Option.bind (g_Reader_isWord F D w1) (fun r1 => (if r1 = 0 then (Option.bind (g_Reader_advance F (g_Reader_refuse (nI 1) (D 3 6) D)) (fun r2 => (some r2))) else (Option.bind (g_Reader_advance F D) (fun r3 => (some r3))))))
set_option maxRecDepth 100000 in
set_option maxHeartbeats 4000000 in
theorem t_Reader_takeWord (X : ev_X) (F : Nat) (d : Nat) (hd : 10 ≤ d + 1) (E : mx_E) (w1 : Nat) (D : mx_D) (v : mx_D) (h : g_Reader_takeWord F w1 D = some v) : ev X (d + 1) 66 (0, [some (.ref 3), some (.ref w1)], [], D, E) (qR none v E) := by
  have hq : kq_m 66 = some kq_q66 := rfl
  unfold g_Reader_takeWord at h
  refine gv_n hq 2 (S' := (2, [some (.ref 3), some (.ref w1)], [.ref w1, .ref 3], D, E)) rfl ?_
  obtain ⟨r1, h1, h⟩ := Option.bind_eq_some_iff.mp h
  refine gv_d hq rfl rfl rfl rfl rfl (gv_dd (by omega) (t_Reader_isWord X F (d - 1) (by omega) D E _ _ h1)) (S' := (5, [some (.ref 3), some (.ref w1)], [.int r1], D, E)) rfl ?_
  refine gv_b hq rfl h 8 17 rfl rfl rfl (fun h => ?_) (fun h => ?_)
  · refine gv_n hq 4 (S' := (14, [some (.ref 3), some (.ref w1)], [.int (D 3 6), .int (nI 1), .ref 3], D, E)) rfl ?_
    refine gv_d hq rfl rfl rfl rfl rfl ((t_Reader_refuse X d E _ _ _ _ rfl)) (S' := (17, [some (.ref 3), some (.ref w1)], [], (g_Reader_refuse (nI 1) (D 3 6) D), E)) rfl ?_
    refine gv_n hq 1 (S' := (18, [some (.ref 3), some (.ref w1)], [.ref 3], (g_Reader_refuse (nI 1) (D 3 6) D), E)) rfl ?_
    obtain ⟨r2, h1, h⟩ := Option.bind_eq_some_iff.mp h
    refine gv_d hq rfl rfl rfl rfl rfl (gv_dd (by omega) (t_Reader_advance X F (d - 1) (by omega) E _ _ h1)) (S' := (21, [some (.ref 3), some (.ref w1)], [], r2, E)) rfl ?_
    cases h
    exact ev_ret hq rfl rfl ⟨rfl, rfl, rfl⟩
  · refine gv_n hq 1 (S' := (18, [some (.ref 3), some (.ref w1)], [.ref 3], D, E)) rfl ?_
    obtain ⟨r3, h1, h⟩ := Option.bind_eq_some_iff.mp h
    refine gv_d hq rfl rfl rfl rfl rfl (gv_dd (by omega) (t_Reader_advance X F (d - 1) (by omega) E _ _ h1)) (S' := (21, [some (.ref 3), some (.ref w1)], [], r3, E)) rfl ?_
    cases h
    exact ev_ret hq rfl rfl ⟨rfl, rfl, rfl⟩
def b_Reader_takeNumber_45 (F : Nat) (D : mx_D) : Option (Int32 × mx_D) := (if (D 3 1) = 0 then (Option.bind (g_Reader_advance F (sD D 3 8 (D 3 6))) (fun r1 => (some ((D 3 7), r1)))) else (Option.bind (g_Reader_advance F (sD D 3 8 (D 3 6))) (fun r2 => (some ((-1 : Int32), r2)))))
set_option maxRecDepth 100000 in
set_option maxHeartbeats 4000000 in
theorem tb_Reader_takeNumber_45 (X : ev_X) (F : Nat) (d : Nat) (hd : 2 ≤ d + 1) (E : mx_E)  (D : mx_D) (v : Int32 × mx_D) (h : b_Reader_takeNumber_45 F D = some v) : ev X (d + 1) 67 (45, [some (.ref 3), none, none, none], [], D, E) (qR (some (.int v.1)) v.2 E) := by
  have hq : kq_m 67 = some kq_q67 := rfl
  unfold b_Reader_takeNumber_45 at h
  refine gv_n hq 2 (S' := (49, [some (.ref 3), none, none, none], [.int (D 3 1)], D, E)) rfl ?_
  refine gv_b hq rfl h 52 59 rfl rfl rfl (fun h => ?_) (fun h => ?_)
  · refine gv_n hq 9 (S' := (70, [some (.ref 3), none, none, some (.int (D 3 7))], [.ref 3], (sD D 3 8 (D 3 6)), E)) rfl ?_
    obtain ⟨r1, h1, h⟩ := Option.bind_eq_some_iff.mp h
    refine gv_d hq rfl rfl rfl rfl rfl (gv_dd (by omega) (t_Reader_advance X F (d - 1) (by omega) E _ _ h1)) (S' := (73, [some (.ref 3), none, none, some (.int (D 3 7))], [], r1, E)) rfl ?_
    refine gv_n hq 1 (S' := (74, [some (.ref 3), none, none, some (.int (D 3 7))], [.int (D 3 7)], r1, E)) rfl ?_
    cases h
    exact ev_ret hq rfl rfl ⟨rfl, rfl, rfl⟩
  · refine gv_n hq 7 (S' := (70, [some (.ref 3), none, none, some (.int (-1 : Int32))], [.ref 3], (sD D 3 8 (D 3 6)), E)) rfl ?_
    obtain ⟨r2, h1, h⟩ := Option.bind_eq_some_iff.mp h
    refine gv_d hq rfl rfl rfl rfl rfl (gv_dd (by omega) (t_Reader_advance X F (d - 1) (by omega) E _ _ h1)) (S' := (73, [some (.ref 3), none, none, some (.int (-1 : Int32))], [], r2, E)) rfl ?_
    refine gv_n hq 1 (S' := (74, [some (.ref 3), none, none, some (.int (-1 : Int32))], [.int (-1 : Int32)], r2, E)) rfl ?_
    cases h
    exact ev_ret hq rfl rfl ⟨rfl, rfl, rfl⟩
def b_Reader_takeNumber_36 (F : Nat) (D : mx_D) : Option (Int32 × mx_D) := (b_Reader_takeNumber_45 F (g_Reader_refuse (nI 2) (D 3 6) D))
set_option maxRecDepth 100000 in
set_option maxHeartbeats 4000000 in
theorem tb_Reader_takeNumber_36 (X : ev_X) (F : Nat) (d : Nat) (hd : 2 ≤ d + 1) (E : mx_E)  (D : mx_D) (v : Int32 × mx_D) (h : b_Reader_takeNumber_36 F D = some v) : ev X (d + 1) 67 (36, [some (.ref 3), none, none, none], [], D, E) (qR (some (.int v.1)) v.2 E) := by
  have hq : kq_m 67 = some kq_q67 := rfl
  unfold b_Reader_takeNumber_36 at h
  refine gv_n hq 4 (S' := (42, [some (.ref 3), none, none, none], [.int (D 3 6), .int (nI 2), .ref 3], D, E)) rfl ?_
  refine gv_d hq rfl rfl rfl rfl rfl ((t_Reader_refuse X d E _ _ _ _ rfl)) (S' := (45, [some (.ref 3), none, none, none], [], (g_Reader_refuse (nI 2) (D 3 6) D), E)) rfl ?_
  exact gv_w (tb_Reader_takeNumber_45 X F d hd E _ _ h) (And.intro rfl trivial)
def g_Reader_takeNumber (F : Nat) (a1 : Int32) (a2 : Int32) (D : mx_D) : Option (Int32 × mx_D) := (if (D 3 5) = (nI 2) then (if (D 3 7) < a1 then (b_Reader_takeNumber_36 F D) else (if (D 3 7) ≤ a2 then (b_Reader_takeNumber_45 F D) else (b_Reader_takeNumber_36 F D))) else (b_Reader_takeNumber_45 F (g_Reader_refuse (nI 1) (D 3 6) D)))
set_option maxRecDepth 100000 in
set_option maxHeartbeats 4000000 in
theorem t_Reader_takeNumber (X : ev_X) (F : Nat) (d : Nat) (hd : 2 ≤ d + 1) (E : mx_E) (a1 : Int32) (a2 : Int32) (D : mx_D) (v : Int32 × mx_D) (h : g_Reader_takeNumber F a1 a2 D = some v) : ev X (d + 1) 67 (0, [some (.ref 3), some (.int a1), some (.int a2), none], [], D, E) (qR (some (.int v.1)) v.2 E) := by
  have hq : kq_m 67 = some kq_q67 := rfl
  unfold g_Reader_takeNumber at h
  refine gv_n hq 3 (S' := (5, [some (.ref 3), some (.int a1), some (.int a2), none], [.int (nI 2), .int (D 3 5)], D, E)) rfl ?_
  refine gv_b hq rfl h 20 8 rfl rfl rfl (fun h => ?_) (fun h => ?_)
  · refine gv_n hq 3 (S' := (25, [some (.ref 3), some (.int a1), some (.int a2), none], [.int a1, .int (D 3 7)], D, E)) rfl ?_
    refine gv_b hq rfl h 36 28 rfl rfl rfl (fun h => ?_) (fun h => ?_)
    · exact gv_w (tb_Reader_takeNumber_36 X F d hd E _ _ h) (And.intro rfl trivial)
    · refine gv_n hq 3 (S' := (33, [some (.ref 3), some (.int a1), some (.int a2), none], [.int a2, .int (D 3 7)], D, E)) rfl ?_
      refine gv_b hq rfl h 45 36 rfl rfl rfl (fun h => ?_) (fun h => ?_)
      · exact gv_w (tb_Reader_takeNumber_45 X F d hd E _ _ h) (And.intro rfl trivial)
      · exact gv_w (tb_Reader_takeNumber_36 X F d hd E _ _ h) (And.intro rfl trivial)
  · refine gv_n hq 4 (S' := (14, [some (.ref 3), some (.int a1), some (.int a2), none], [.int (D 3 6), .int (nI 1), .ref 3], D, E)) rfl ?_
    refine gv_d hq rfl rfl rfl rfl rfl ((t_Reader_refuse X d E _ _ _ _ rfl)) (S' := (17, [some (.ref 3), some (.int a1), some (.int a2), none], [], (g_Reader_refuse (nI 1) (D 3 6) D), E)) rfl ?_
    refine gv_n hq 1 (S' := (45, [some (.ref 3), some (.int a1), some (.int a2), none], [], (g_Reader_refuse (nI 1) (D 3 6) D), E)) rfl ?_
    exact gv_w (tb_Reader_takeNumber_45 X F d hd E _ _ h) (And.intro rfl trivial)
def g_Reader_refuseNumberIf (a1 : Int32) (D : mx_D) : mx_D := (if a1 = 0 then D else (g_Reader_refuse (nI 2) (D 3 8) D))
set_option maxRecDepth 100000 in
set_option maxHeartbeats 4000000 in
theorem t_Reader_refuseNumberIf (X : ev_X) (d : Nat) (hd : 1 ≤ d + 1) (E : mx_E) (a1 : Int32) (D : mx_D) (v : mx_D) (h : g_Reader_refuseNumberIf a1 D = v) : ev X (d + 1) 72 (0, [some (.ref 3), some (.int a1)], [], D, E) (qR none v E) := by
  have hq : kq_m 72 = some kq_q72 := rfl
  unfold g_Reader_refuseNumberIf at h
  refine gv_n hq 1 (S' := (1, [some (.ref 3), some (.int a1)], [.int a1], D, E)) rfl ?_
  refine gv_b hq rfl h 13 4 rfl rfl rfl (fun h => ?_) (fun h => ?_)
  · subst h
    exact ev_ret hq rfl rfl ⟨rfl, rfl, rfl⟩
  · refine gv_n hq 4 (S' := (10, [some (.ref 3), some (.int a1)], [.int (D 3 8), .int (nI 2), .ref 3], D, E)) rfl ?_
    refine gv_d hq rfl rfl rfl rfl rfl ((t_Reader_refuse X d E _ _ _ _ rfl)) (S' := (13, [some (.ref 3), some (.int a1)], [], (g_Reader_refuse (nI 2) (D 3 8) D), E)) rfl ?_
    subst h
    exact ev_ret hq rfl rfl ⟨rfl, rfl, rfl⟩
def b_Reader_readStands_65 (F : Nat) (l1 : Int32) (l2 : Int32) (s1 : Int32) (D : mx_D) : Option (mx_D) := (if ((g_Reader_refuseNumberIf s1 D) 3 1) = 0 then (rk 5 l2 (some (sD (g_Reader_refuseNumberIf s1 D) 18 (l2).toNatClampNeg l1))) else (some (g_Reader_refuseNumberIf s1 D)))
set_option maxRecDepth 100000 in
set_option maxHeartbeats 4000000 in
theorem tb_Reader_readStands_65 (X : ev_X) (F : Nat) (d : Nat) (hd : 11 ≤ d + 1) (E : mx_E)  (l1 : Int32) (l2 : Int32) (s1 : Int32) (D : mx_D) (v : mx_D) (h : b_Reader_readStands_65 F l1 l2 s1 D = some v) : ev X (d + 1) 76 (65, [some (.ref 3), some (.int l1), some (.int l2)], [.int s1, .ref 3], D, E) (qR none v E) := by
  have hq : kq_m 76 = some kq_q76 := rfl
  unfold b_Reader_readStands_65 at h
  refine gv_d hq rfl rfl rfl rfl rfl (gv_dd (by omega) (t_Reader_refuseNumberIf X (d - 1) (by omega) E _ _ _ rfl)) (S' := (68, [some (.ref 3), some (.int l1), some (.int l2)], [], (g_Reader_refuseNumberIf s1 D), E)) rfl ?_
  refine gv_n hq 2 (S' := (72, [some (.ref 3), some (.int l1), some (.int l2)], [.int ((g_Reader_refuseNumberIf s1 D) 3 1)], (g_Reader_refuseNumberIf s1 D), E)) rfl ?_
  refine gv_b hq rfl h 75 85 rfl rfl rfl (fun h => ?_) (fun h => ?_)
  · refine gv_n hq 5 (S' := (84, [some (.ref 3), some (.int l1), some (.int l2)], [.int l1, .int l2, .ref 18], (g_Reader_refuseNumberIf s1 D), E)) rfl ?_
    refine gv_is hq rfl rfl h 85 rfl (fun h => ?_)
    cases h
    exact ev_ret hq rfl rfl ⟨rfl, rfl, rfl⟩
  · cases h
    exact ev_ret hq rfl rfl ⟨rfl, rfl, rfl⟩
def b_Reader_readStands_64 (F : Nat) (l1 : Int32) (l2 : Int32) (D : mx_D) : Option (mx_D) := (b_Reader_readStands_65 F l1 l2 (nI 0) D)
set_option maxRecDepth 100000 in
set_option maxHeartbeats 4000000 in
theorem tb_Reader_readStands_64 (X : ev_X) (F : Nat) (d : Nat) (hd : 11 ≤ d + 1) (E : mx_E)  (l1 : Int32) (l2 : Int32) (D : mx_D) (v : mx_D) (h : b_Reader_readStands_64 F l1 l2 D = some v) : ev X (d + 1) 76 (64, [some (.ref 3), some (.int l1), some (.int l2)], [.ref 3], D, E) (qR none v E) := by
  have hq : kq_m 76 = some kq_q76 := rfl
  unfold b_Reader_readStands_64 at h
  refine gv_n hq 1 (S' := (65, [some (.ref 3), some (.int l1), some (.int l2)], [.int (nI 0), .ref 3], D, E)) rfl ?_
  exact gv_w (tb_Reader_readStands_65 X F d hd E _ _ _ _ _ h) (And.intro rfl (And.intro rfl (And.intro rfl trivial)))
def g_Reader_readStands (F : Nat) (D : mx_D) : Option (mx_D) := (Option.bind (g_Reader_takeWord F 1020 D) (fun r1 => (Option.bind (g_Reader_takeNumber F (nI 0) ((r1 9 6) - (nI 1)) r1) (fun r2 => (Option.bind (g_Reader_takeNumber F (nI 0) ((r2.2 4 12) - (nI 1)) r2.2) (fun r3 => (if (r3.2 3 1) = 0 then (rk 5 r3.1 (if (r3.2 18 (r3.1).toNatClampNeg) = (-1 : Int32) then (b_Reader_readStands_64 F r2.1 r3.1 r3.2) else (b_Reader_readStands_65 F r2.1 r3.1 (nI 1) r3.2))) else (b_Reader_readStands_64 F r2.1 r3.1 r3.2))))))))
set_option maxRecDepth 100000 in
set_option maxHeartbeats 4000000 in
theorem t_Reader_readStands (X : ev_X) (F : Nat) (d : Nat) (hd : 11 ≤ d + 1) (E : mx_E) (D : mx_D) (v : mx_D) (h : g_Reader_readStands F D = some v) : ev X (d + 1) 76 (0, [some (.ref 3), none, none], [], D, E) (qR none v E) := by
  have hq : kq_m 76 = some kq_q76 := rfl
  unfold g_Reader_readStands at h
  refine gv_n hq 2 (S' := (3, [some (.ref 3), none, none], [.ref 1020, .ref 3], D, E)) rfl ?_
  obtain ⟨r1, h1, h⟩ := Option.bind_eq_some_iff.mp h
  refine gv_d hq rfl rfl rfl rfl rfl (gv_dd (by omega) (t_Reader_takeWord X F (d - 1) (by omega) E _ _ _ h1)) (S' := (6, [some (.ref 3), none, none], [], r1, E)) rfl ?_
  refine gv_n hq 8 (S' := (20, [some (.ref 3), none, none], [.int ((r1 9 6) - (nI 1)), .int (nI 0), .ref 3], r1, E)) rfl ?_
  obtain ⟨r2, h1, h⟩ := Option.bind_eq_some_iff.mp h
  refine gv_d hq rfl rfl rfl rfl rfl (gv_dd (by omega) (t_Reader_takeNumber X F (d - 1) (by omega) E _ _ _ _ h1)) (S' := (23, [some (.ref 3), none, none], [.int r2.1], r2.2, E)) rfl ?_
  refine gv_n hq 8 (S' := (35, [some (.ref 3), some (.int r2.1), none], [.int ((r2.2 4 12) - (nI 1)), .int (nI 0), .ref 3], r2.2, E)) rfl ?_
  obtain ⟨r3, h1, h⟩ := Option.bind_eq_some_iff.mp h
  refine gv_d hq rfl rfl rfl rfl rfl (gv_dd (by omega) (t_Reader_takeNumber X F (d - 1) (by omega) E _ _ _ _ h1)) (S' := (38, [some (.ref 3), some (.int r2.1), none], [.int r3.1], r3.2, E)) rfl ?_
  refine gv_n hq 4 (S' := (44, [some (.ref 3), some (.int r2.1), some (.int r3.1)], [.int (r3.2 3 1), .ref 3], r3.2, E)) rfl ?_
  refine gv_b hq rfl h 47 64 rfl rfl rfl (fun h => ?_) (fun h => ?_)
  · refine gv_n hq 4 (S' := (55, [some (.ref 3), some (.int r2.1), some (.int r3.1)], [.int r3.1, .ref 18, .ref 3], r3.2, E)) rfl ?_
    refine gv_ia hq rfl rfl rfl h 56 rfl (fun h => ?_)
    refine gv_n hq 1 (S' := (57, [some (.ref 3), some (.int r2.1), some (.int r3.1)], [.int (-1 : Int32), .int (r3.2 18 (r3.1).toNatClampNeg), .ref 3], r3.2, E)) rfl ?_
    refine gv_b hq rfl h 64 60 rfl rfl rfl (fun h => ?_) (fun h => ?_)
    · exact gv_w (tb_Reader_readStands_64 X F d hd E _ _ _ _ h) (And.intro rfl (And.intro rfl (And.intro rfl trivial)))
    · refine gv_n hq 2 (S' := (65, [some (.ref 3), some (.int r2.1), some (.int r3.1)], [.int (nI 1), .ref 3], r3.2, E)) rfl ?_
      exact gv_w (tb_Reader_readStands_65 X F d hd E _ _ _ _ _ h) (And.intro rfl (And.intro rfl (And.intro rfl trivial)))
  · exact gv_w (tb_Reader_readStands_64 X F d hd E _ _ _ _ h) (And.intro rfl (And.intro rfl (And.intro rfl trivial)))
def b_Reader_readBook_20 (F : Nat) (D : mx_D) : Option (mx_D) := (Option.bind (g_Reader_takeWord F 1019 D) (fun r1 => (Option.bind (g_Reader_takeNumber F (nI 1) (nI 30) r1) (fun r2 => (if (r2.2 3 1) = 0 then (rk 5 (r2.2 4 12) (some (sD (sD r2.2 17 ((r2.2 4 12)).toNatClampNeg r2.1) 4 12 (((sD r2.2 17 ((r2.2 4 12)).toNatClampNeg r2.1) 4 12) + (nI 1))))) else (some r2.2))))))
set_option maxRecDepth 100000 in
set_option maxHeartbeats 4000000 in
theorem tb_Reader_readBook_20 (X : ev_X) (F : Nat) (d : Nat) (hd : 11 ≤ d + 1) (E : mx_E)  (D : mx_D) (v : mx_D) (h : b_Reader_readBook_20 F D = some v) : ev X (d + 1) 75 (20, [some (.ref 3), none], [], D, E) (qR none v E) := by
  have hq : kq_m 75 = some kq_q75 := rfl
  unfold b_Reader_readBook_20 at h
  refine gv_n hq 2 (S' := (23, [some (.ref 3), none], [.ref 1019, .ref 3], D, E)) rfl ?_
  obtain ⟨r1, h1, h⟩ := Option.bind_eq_some_iff.mp h
  refine gv_d hq rfl rfl rfl rfl rfl (gv_dd (by omega) (t_Reader_takeWord X F (d - 1) (by omega) E _ _ _ h1)) (S' := (26, [some (.ref 3), none], [], r1, E)) rfl ?_
  refine gv_n hq 3 (S' := (30, [some (.ref 3), none], [.int (nI 30), .int (nI 1), .ref 3], r1, E)) rfl ?_
  obtain ⟨r2, h1, h⟩ := Option.bind_eq_some_iff.mp h
  refine gv_d hq rfl rfl rfl rfl rfl (gv_dd (by omega) (t_Reader_takeNumber X F (d - 1) (by omega) E _ _ _ _ h1)) (S' := (33, [some (.ref 3), none], [.int r2.1], r2.2, E)) rfl ?_
  refine gv_n hq 3 (S' := (38, [some (.ref 3), some (.int r2.1)], [.int (r2.2 3 1)], r2.2, E)) rfl ?_
  refine gv_b hq rfl h 41 70 rfl rfl rfl (fun h => ?_) (fun h => ?_)
  · refine gv_n hq 7 (S' := (56, [some (.ref 3), some (.int r2.1)], [.int r2.1, .int (r2.2 4 12), .ref 17], r2.2, E)) rfl ?_
    refine gv_is hq rfl rfl h 57 rfl (fun h => ?_)
    refine gv_n hq 7 (S' := (70, [some (.ref 3), some (.int r2.1)], [], (sD (sD r2.2 17 ((r2.2 4 12)).toNatClampNeg r2.1) 4 12 (((sD r2.2 17 ((r2.2 4 12)).toNatClampNeg r2.1) 4 12) + (nI 1))), E)) rfl ?_
    cases h
    exact ev_ret hq rfl rfl ⟨rfl, rfl, rfl⟩
  · cases h
    exact ev_ret hq rfl rfl ⟨rfl, rfl, rfl⟩
def g_Reader_readBook (F : Nat) (D : mx_D) : Option (mx_D) := (if (D 4 12) < (nI 5) then (b_Reader_readBook_20 F D) else (b_Reader_readBook_20 F (g_Reader_refuse (nI 3) (D 3 6) D)))
set_option maxRecDepth 100000 in
set_option maxHeartbeats 4000000 in
theorem t_Reader_readBook (X : ev_X) (F : Nat) (d : Nat) (hd : 11 ≤ d + 1) (E : mx_E) (D : mx_D) (v : mx_D) (h : g_Reader_readBook F D = some v) : ev X (d + 1) 75 (0, [some (.ref 3), none], [], D, E) (qR none v E) := by
  have hq : kq_m 75 = some kq_q75 := rfl
  unfold g_Reader_readBook at h
  refine gv_n hq 4 (S' := (8, [some (.ref 3), none], [.int (nI 5), .int (D 4 12)], D, E)) rfl ?_
  refine gv_b hq rfl h 20 11 rfl rfl rfl (fun h => ?_) (fun h => ?_)
  · exact gv_w (tb_Reader_readBook_20 X F d hd E _ _ h) (And.intro rfl trivial)
  · refine gv_n hq 4 (S' := (17, [some (.ref 3), none], [.int (D 3 6), .int (nI 3), .ref 3], D, E)) rfl ?_
    refine gv_d hq rfl rfl rfl rfl rfl ((t_Reader_refuse X d E _ _ _ _ rfl)) (S' := (20, [some (.ref 3), none], [], (g_Reader_refuse (nI 3) (D 3 6) D), E)) rfl ?_
    exact gv_w (tb_Reader_readBook_20 X F d hd E _ _ h) (And.intro rfl trivial)
def b_Church_wearerOf_4_2 (F : Nat) (D : mx_D) (k2 : Int32 → Int32 → Option (Int32)) (l1 : Int32) (l2 : Int32) : Option (Int32) := (if (D 9 6) ≤ l2 then (some (-1 : Int32)) else (if l1 = (-1 : Int32) then (k2 l1 (l2 + (nI 1))) else (rk 8 l2 (if (D 15 (l2).toNatClampNeg) = l1 then (some l2) else (k2 l1 (l2 + (nI 1)))))))
set_option maxRecDepth 100000 in
set_option maxHeartbeats 4000000 in
theorem tb_Church_wearerOf_4_2 (X : ev_X) (F : Nat) (d : Nat) (D : mx_D) (E : mx_E) (k2 : Int32 → Int32 → Option (Int32)) (K2 : ∀ (l1 : Int32) (l2 : Int32) (v : Int32), k2 l1 l2 = some v → ev X d 14 (2, [some (.ref 4), some (.int l1), some (.int l2)], [], D, E) (qR (some (.int v)) D E)) (l1 : Int32) (l2 : Int32) (v : Int32) (h : b_Church_wearerOf_4_2 F D k2 l1 l2 = some v) : ev X d 14 (2, [some (.ref 4), some (.int l1), some (.int l2)], [], D, E) (qR (some (.int v)) D E) := by
  have hq : kq_m 14 = some kq_q14 := rfl
  unfold b_Church_wearerOf_4_2 at h
  refine gv_n hq 4 (S' := (10, [some (.ref 4), some (.int l1), some (.int l2)], [.int (D 9 6), .int l2], D, E)) rfl ?_
  refine gv_b hq rfl h 39 13 rfl rfl rfl (fun h => ?_) (fun h => ?_)
  · refine gv_n hq 1 (S' := (40, [some (.ref 4), some (.int l1), some (.int l2)], [.int (-1 : Int32)], D, E)) rfl ?_
    cases h
    exact ev_ret hq rfl rfl ⟨rfl, rfl, rfl⟩
  · refine gv_n hq 2 (S' := (15, [some (.ref 4), some (.int l1), some (.int l2)], [.int (-1 : Int32), .int l1], D, E)) rfl ?_
    refine gv_b hq rfl h 33 18 rfl rfl rfl (fun h => ?_) (fun h => ?_)
    · refine gv_n hq 2 (S' := (2, [some (.ref 4), some (.int l1), some (.int (l2 + (nI 1)))], [], D, E)) rfl ?_
      exact gv_w (K2 _ _ _ h) (And.intro rfl (And.intro rfl (And.intro rfl trivial)))
    · refine gv_n hq 4 (S' := (26, [some (.ref 4), some (.int l1), some (.int l2)], [.int l2, .ref 15], D, E)) rfl ?_
      refine gv_ia hq rfl rfl rfl h 27 rfl (fun h => ?_)
      refine gv_n hq 1 (S' := (28, [some (.ref 4), some (.int l1), some (.int l2)], [.int l1, .int (D 15 (l2).toNatClampNeg)], D, E)) rfl ?_
      refine gv_b hq rfl h 31 33 rfl rfl rfl (fun h => ?_) (fun h => ?_)
      · refine gv_n hq 1 (S' := (32, [some (.ref 4), some (.int l1), some (.int l2)], [.int l2], D, E)) rfl ?_
        cases h
        exact ev_ret hq rfl rfl ⟨rfl, rfl, rfl⟩
      · refine gv_n hq 2 (S' := (2, [some (.ref 4), some (.int l1), some (.int (l2 + (nI 1)))], [], D, E)) rfl ?_
        exact gv_w (K2 _ _ _ h) (And.intro rfl (And.intro rfl (And.intro rfl trivial)))
def g_Church_wearerOf_4_2 (F : Nat) (D : mx_D) : Nat → Int32 → Int32 → Option (Int32) := it (fun k2 => b_Church_wearerOf_4_2 F D k2) (fun _ _ => none)
set_option maxRecDepth 100000 in
set_option maxHeartbeats 4000000 in
theorem t_Church_wearerOf_4_2 (X : ev_X) (F : Nat) (d : Nat) (D : mx_D) (E : mx_E)  : ∀ (n : Nat) (l1 : Int32) (l2 : Int32) (v : Int32), g_Church_wearerOf_4_2 F D n l1 l2 = some v → ev X d 14 (2, [some (.ref 4), some (.int l1), some (.int l2)], [], D, E) (qR (some (.int v)) D E) := by
  intro n
  induction n with
  | zero => intro l1 l2 v h; cases h
  | succ n ih => intro l1 l2 v h; exact tb_Church_wearerOf_4_2 X F d D E (g_Church_wearerOf_4_2 F D n) ih l1 l2 v h
def g_Church_wearerOf_4 (F : Nat) (D : mx_D) (a1 : Int32) : Option (Int32) := (g_Church_wearerOf_4_2 F D F a1 (nI 0))
set_option maxRecDepth 100000 in
set_option maxHeartbeats 4000000 in
theorem t_Church_wearerOf_4 (X : ev_X) (F : Nat) (d : Nat) (D : mx_D) (E : mx_E) (a1 : Int32) (v : Int32) (h : g_Church_wearerOf_4 F D a1 = some v) : ev X d 14 (0, [some (.ref 4), some (.int a1), none], [], D, E) (qR (some (.int v)) D E) := by
  have hq : kq_m 14 = some kq_q14 := rfl
  unfold g_Church_wearerOf_4 at h
  refine gv_n hq 2 (S' := (2, [some (.ref 4), some (.int a1), some (.int (nI 0))], [], D, E)) rfl ?_
  exact gv_w (t_Church_wearerOf_4_2 X F d D E F _ _ _ h) (And.intro rfl (And.intro rfl (And.intro rfl trivial)))
def b_Reader_readWears_89 (F : Nat) (l1 : Int32) (l2 : Int32) (s1 : Int32) (D : mx_D) : Option (mx_D) := (if ((g_Reader_refuseNumberIf s1 D) 3 1) = 0 then (rk 8 l1 (some (sD (g_Reader_refuseNumberIf s1 D) 15 (l1).toNatClampNeg l2))) else (some (g_Reader_refuseNumberIf s1 D)))
set_option maxRecDepth 100000 in
set_option maxHeartbeats 4000000 in
theorem tb_Reader_readWears_89 (X : ev_X) (F : Nat) (d : Nat) (hd : 11 ≤ d + 1) (E : mx_E)  (l1 : Int32) (l2 : Int32) (s1 : Int32) (D : mx_D) (v : mx_D) (h : b_Reader_readWears_89 F l1 l2 s1 D = some v) : ev X (d + 1) 74 (89, [some (.ref 3), some (.int l1), some (.int l2)], [.int s1, .ref 3], D, E) (qR none v E) := by
  have hq : kq_m 74 = some kq_q74 := rfl
  unfold b_Reader_readWears_89 at h
  refine gv_d hq rfl rfl rfl rfl rfl (gv_dd (by omega) (t_Reader_refuseNumberIf X (d - 1) (by omega) E _ _ _ rfl)) (S' := (92, [some (.ref 3), some (.int l1), some (.int l2)], [], (g_Reader_refuseNumberIf s1 D), E)) rfl ?_
  refine gv_n hq 2 (S' := (96, [some (.ref 3), some (.int l1), some (.int l2)], [.int ((g_Reader_refuseNumberIf s1 D) 3 1)], (g_Reader_refuseNumberIf s1 D), E)) rfl ?_
  refine gv_b hq rfl h 99 112 rfl rfl rfl (fun h => ?_) (fun h => ?_)
  · refine gv_n hq 6 (S' := (111, [some (.ref 3), some (.int l1), some (.int l2)], [.int l2, .int l1, .ref 15], (g_Reader_refuseNumberIf s1 D), E)) rfl ?_
    refine gv_is hq rfl rfl h 112 rfl (fun h => ?_)
    cases h
    exact ev_ret hq rfl rfl ⟨rfl, rfl, rfl⟩
  · cases h
    exact ev_ret hq rfl rfl ⟨rfl, rfl, rfl⟩
def b_Reader_readWears_53 (F : Nat) (l1 : Int32) (s1 : Int32) (D : mx_D) : Option (mx_D) := (Option.bind (g_Reader_takeNumber F (nI 0) (((g_Reader_refuseNumberIf s1 D) 4 10) - (nI 1)) (g_Reader_refuseNumberIf s1 D)) (fun r3 => (Option.bind (g_Church_wearerOf_4 F r3.2 r3.1) (fun r4 => (if r4 = (-1 : Int32) then (b_Reader_readWears_89 F l1 r3.1 (nI 0) r3.2) else (b_Reader_readWears_89 F l1 r3.1 (nI 1) r3.2))))))
set_option maxRecDepth 100000 in
set_option maxHeartbeats 4000000 in
theorem tb_Reader_readWears_53 (X : ev_X) (F : Nat) (d : Nat) (hd : 11 ≤ d + 1) (E : mx_E)  (l1 : Int32) (s1 : Int32) (D : mx_D) (v : mx_D) (h : b_Reader_readWears_53 F l1 s1 D = some v) : ev X (d + 1) 74 (53, [some (.ref 3), some (.int l1), none], [.int s1, .ref 3], D, E) (qR none v E) := by
  have hq : kq_m 74 = some kq_q74 := rfl
  unfold b_Reader_readWears_53 at h
  refine gv_d hq rfl rfl rfl rfl rfl (gv_dd (by omega) (t_Reader_refuseNumberIf X (d - 1) (by omega) E _ _ _ rfl)) (S' := (56, [some (.ref 3), some (.int l1), none], [], (g_Reader_refuseNumberIf s1 D), E)) rfl ?_
  refine gv_n hq 7 (S' := (67, [some (.ref 3), some (.int l1), none], [.int (((g_Reader_refuseNumberIf s1 D) 4 10) - (nI 1)), .int (nI 0), .ref 3], (g_Reader_refuseNumberIf s1 D), E)) rfl ?_
  obtain ⟨r3, h1, h⟩ := Option.bind_eq_some_iff.mp h
  refine gv_d hq rfl rfl rfl rfl rfl (gv_dd (by omega) (t_Reader_takeNumber X F (d - 1) (by omega) E _ _ _ _ h1)) (S' := (70, [some (.ref 3), some (.int l1), none], [.int r3.1], r3.2, E)) rfl ?_
  refine gv_n hq 5 (S' := (77, [some (.ref 3), some (.int l1), some (.int r3.1)], [.int r3.1, .ref 4, .ref 3], r3.2, E)) rfl ?_
  obtain ⟨r4, h1, h⟩ := Option.bind_eq_some_iff.mp h
  refine gv_d hq rfl rfl rfl rfl rfl ((t_Church_wearerOf_4 X F d r3.2 E _ _ h1)) (S' := (80, [some (.ref 3), some (.int l1), some (.int r3.1)], [.int r4, .ref 3], r3.2, E)) rfl ?_
  refine gv_n hq 1 (S' := (81, [some (.ref 3), some (.int l1), some (.int r3.1)], [.int (-1 : Int32), .int r4, .ref 3], r3.2, E)) rfl ?_
  refine gv_b hq rfl h 88 84 rfl rfl rfl (fun h => ?_) (fun h => ?_)
  · refine gv_n hq 1 (S' := (89, [some (.ref 3), some (.int l1), some (.int r3.1)], [.int (nI 0), .ref 3], r3.2, E)) rfl ?_
    exact gv_w (tb_Reader_readWears_89 X F d hd E _ _ _ _ _ h) (And.intro rfl (And.intro rfl (And.intro rfl trivial)))
  · refine gv_n hq 2 (S' := (89, [some (.ref 3), some (.int l1), some (.int r3.1)], [.int (nI 1), .ref 3], r3.2, E)) rfl ?_
    exact gv_w (tb_Reader_readWears_89 X F d hd E _ _ _ _ _ h) (And.intro rfl (And.intro rfl (And.intro rfl trivial)))
def b_Reader_readWears_52 (F : Nat) (l1 : Int32) (D : mx_D) : Option (mx_D) := (b_Reader_readWears_53 F l1 (nI 0) D)
set_option maxRecDepth 100000 in
set_option maxHeartbeats 4000000 in
theorem tb_Reader_readWears_52 (X : ev_X) (F : Nat) (d : Nat) (hd : 11 ≤ d + 1) (E : mx_E)  (l1 : Int32) (D : mx_D) (v : mx_D) (h : b_Reader_readWears_52 F l1 D = some v) : ev X (d + 1) 74 (52, [some (.ref 3), some (.int l1), none], [.ref 3], D, E) (qR none v E) := by
  have hq : kq_m 74 = some kq_q74 := rfl
  unfold b_Reader_readWears_52 at h
  refine gv_n hq 1 (S' := (53, [some (.ref 3), some (.int l1), none], [.int (nI 0), .ref 3], D, E)) rfl ?_
  exact gv_w (tb_Reader_readWears_53 X F d hd E _ _ _ _ h) (And.intro rfl (And.intro rfl trivial))
def g_Reader_readWears (F : Nat) (D : mx_D) : Option (mx_D) := (Option.bind (g_Reader_takeWord F 1018 D) (fun r1 => (Option.bind (g_Reader_takeNumber F (nI 0) ((r1 9 6) - (nI 1)) r1) (fun r2 => (if (r2.2 3 1) = 0 then (rk 8 r2.1 (if (r2.2 15 (r2.1).toNatClampNeg) = (-1 : Int32) then (b_Reader_readWears_52 F r2.1 r2.2) else (b_Reader_readWears_53 F r2.1 (nI 1) r2.2))) else (b_Reader_readWears_52 F r2.1 r2.2))))))
set_option maxRecDepth 100000 in
set_option maxHeartbeats 4000000 in
theorem t_Reader_readWears (X : ev_X) (F : Nat) (d : Nat) (hd : 11 ≤ d + 1) (E : mx_E) (D : mx_D) (v : mx_D) (h : g_Reader_readWears F D = some v) : ev X (d + 1) 74 (0, [some (.ref 3), none, none], [], D, E) (qR none v E) := by
  have hq : kq_m 74 = some kq_q74 := rfl
  unfold g_Reader_readWears at h
  refine gv_n hq 2 (S' := (3, [some (.ref 3), none, none], [.ref 1018, .ref 3], D, E)) rfl ?_
  obtain ⟨r1, h1, h⟩ := Option.bind_eq_some_iff.mp h
  refine gv_d hq rfl rfl rfl rfl rfl (gv_dd (by omega) (t_Reader_takeWord X F (d - 1) (by omega) E _ _ _ h1)) (S' := (6, [some (.ref 3), none, none], [], r1, E)) rfl ?_
  refine gv_n hq 8 (S' := (20, [some (.ref 3), none, none], [.int ((r1 9 6) - (nI 1)), .int (nI 0), .ref 3], r1, E)) rfl ?_
  obtain ⟨r2, h1, h⟩ := Option.bind_eq_some_iff.mp h
  refine gv_d hq rfl rfl rfl rfl rfl (gv_dd (by omega) (t_Reader_takeNumber X F (d - 1) (by omega) E _ _ _ _ h1)) (S' := (23, [some (.ref 3), none, none], [.int r2.1], r2.2, E)) rfl ?_
  refine gv_n hq 4 (S' := (29, [some (.ref 3), some (.int r2.1), none], [.int (r2.2 3 1), .ref 3], r2.2, E)) rfl ?_
  refine gv_b hq rfl h 32 52 rfl rfl rfl (fun h => ?_) (fun h => ?_)
  · refine gv_n hq 5 (S' := (43, [some (.ref 3), some (.int r2.1), none], [.int r2.1, .ref 15, .ref 3], r2.2, E)) rfl ?_
    refine gv_ia hq rfl rfl rfl h 44 rfl (fun h => ?_)
    refine gv_n hq 1 (S' := (45, [some (.ref 3), some (.int r2.1), none], [.int (-1 : Int32), .int (r2.2 15 (r2.1).toNatClampNeg), .ref 3], r2.2, E)) rfl ?_
    refine gv_b hq rfl h 52 48 rfl rfl rfl (fun h => ?_) (fun h => ?_)
    · exact gv_w (tb_Reader_readWears_52 X F d hd E _ _ _ h) (And.intro rfl (And.intro rfl trivial))
    · refine gv_n hq 2 (S' := (53, [some (.ref 3), some (.int r2.1), none], [.int (nI 1), .ref 3], r2.2, E)) rfl ?_
      exact gv_w (tb_Reader_readWears_53 X F d hd E _ _ _ _ h) (And.intro rfl (And.intro rfl trivial))
  · exact gv_w (tb_Reader_readWears_52 X F d hd E _ _ _ h) (And.intro rfl (And.intro rfl trivial))
def b_Reader_readHat_21 (F : Nat) (D : mx_D) : Option (mx_D) := (Option.bind (g_Reader_takeWord F 1017 D) (fun r1 => (Option.bind (g_Reader_takeNumber F (nI 0) (nI 30) r1) (fun r2 => (if (r2.2 3 1) = 0 then (rk 8 (r2.2 4 10) (some (sD (sD r2.2 16 ((r2.2 4 10)).toNatClampNeg r2.1) 4 10 (((sD r2.2 16 ((r2.2 4 10)).toNatClampNeg r2.1) 4 10) + (nI 1))))) else (some r2.2))))))
set_option maxRecDepth 100000 in
set_option maxHeartbeats 4000000 in
theorem tb_Reader_readHat_21 (X : ev_X) (F : Nat) (d : Nat) (hd : 11 ≤ d + 1) (E : mx_E)  (D : mx_D) (v : mx_D) (h : b_Reader_readHat_21 F D = some v) : ev X (d + 1) 73 (21, [some (.ref 3), none], [], D, E) (qR none v E) := by
  have hq : kq_m 73 = some kq_q73 := rfl
  unfold b_Reader_readHat_21 at h
  refine gv_n hq 2 (S' := (24, [some (.ref 3), none], [.ref 1017, .ref 3], D, E)) rfl ?_
  obtain ⟨r1, h1, h⟩ := Option.bind_eq_some_iff.mp h
  refine gv_d hq rfl rfl rfl rfl rfl (gv_dd (by omega) (t_Reader_takeWord X F (d - 1) (by omega) E _ _ _ h1)) (S' := (27, [some (.ref 3), none], [], r1, E)) rfl ?_
  refine gv_n hq 3 (S' := (31, [some (.ref 3), none], [.int (nI 30), .int (nI 0), .ref 3], r1, E)) rfl ?_
  obtain ⟨r2, h1, h⟩ := Option.bind_eq_some_iff.mp h
  refine gv_d hq rfl rfl rfl rfl rfl (gv_dd (by omega) (t_Reader_takeNumber X F (d - 1) (by omega) E _ _ _ _ h1)) (S' := (34, [some (.ref 3), none], [.int r2.1], r2.2, E)) rfl ?_
  refine gv_n hq 3 (S' := (39, [some (.ref 3), some (.int r2.1)], [.int (r2.2 3 1)], r2.2, E)) rfl ?_
  refine gv_b hq rfl h 42 71 rfl rfl rfl (fun h => ?_) (fun h => ?_)
  · refine gv_n hq 7 (S' := (57, [some (.ref 3), some (.int r2.1)], [.int r2.1, .int (r2.2 4 10), .ref 16], r2.2, E)) rfl ?_
    refine gv_is hq rfl rfl h 58 rfl (fun h => ?_)
    refine gv_n hq 7 (S' := (71, [some (.ref 3), some (.int r2.1)], [], (sD (sD r2.2 16 ((r2.2 4 10)).toNatClampNeg r2.1) 4 10 (((sD r2.2 16 ((r2.2 4 10)).toNatClampNeg r2.1) 4 10) + (nI 1))), E)) rfl ?_
    cases h
    exact ev_ret hq rfl rfl ⟨rfl, rfl, rfl⟩
  · cases h
    exact ev_ret hq rfl rfl ⟨rfl, rfl, rfl⟩
def g_Reader_readHat (F : Nat) (D : mx_D) : Option (mx_D) := (if (D 4 10) < (nI 8) then (b_Reader_readHat_21 F D) else (b_Reader_readHat_21 F (g_Reader_refuse (nI 3) (D 3 6) D)))
set_option maxRecDepth 100000 in
set_option maxHeartbeats 4000000 in
theorem t_Reader_readHat (X : ev_X) (F : Nat) (d : Nat) (hd : 11 ≤ d + 1) (E : mx_E) (D : mx_D) (v : mx_D) (h : g_Reader_readHat F D = some v) : ev X (d + 1) 73 (0, [some (.ref 3), none], [], D, E) (qR none v E) := by
  have hq : kq_m 73 = some kq_q73 := rfl
  unfold g_Reader_readHat at h
  refine gv_n hq 4 (S' := (9, [some (.ref 3), none], [.int (nI 8), .int (D 4 10)], D, E)) rfl ?_
  refine gv_b hq rfl h 21 12 rfl rfl rfl (fun h => ?_) (fun h => ?_)
  · exact gv_w (tb_Reader_readHat_21 X F d hd E _ _ h) (And.intro rfl trivial)
  · refine gv_n hq 4 (S' := (18, [some (.ref 3), none], [.int (D 3 6), .int (nI 3), .ref 3], D, E)) rfl ?_
    refine gv_d hq rfl rfl rfl rfl rfl ((t_Reader_refuse X d E _ _ _ _ rfl)) (S' := (21, [some (.ref 3), none], [], (g_Reader_refuse (nI 3) (D 3 6) D), E)) rfl ?_
    exact gv_w (tb_Reader_readHat_21 X F d hd E _ _ h) (And.intro rfl trivial)
def g_Church_hasPerson_4 (D : mx_D) (a1 : Int32) : Int32 := (if a1 < 0 then (nI 0) else (if (D 9 6) ≤ a1 then (nI 0) else (nI 1)))
set_option maxRecDepth 100000 in
set_option maxHeartbeats 4000000 in
theorem t_Church_hasPerson_4 (X : ev_X) (d : Nat) (D : mx_D) (E : mx_E) (a1 : Int32) (v : Int32) (h : g_Church_hasPerson_4 D a1 = v) : ev X d 12 (0, [some (.ref 4), some (.int a1)], [], D, E) (qR (some (.int v)) D E) := by
  have hq : kq_m 12 = some kq_q12 := rfl
  unfold g_Church_hasPerson_4 at h
  refine gv_n hq 1 (S' := (1, [some (.ref 4), some (.int a1)], [.int a1], D, E)) rfl ?_
  refine gv_b hq rfl h 19 4 rfl rfl rfl (fun h => ?_) (fun h => ?_)
  · refine gv_n hq 1 (S' := (20, [some (.ref 4), some (.int a1)], [.int (nI 0)], D, E)) rfl ?_
    subst h
    exact ev_ret hq rfl rfl ⟨rfl, rfl, rfl⟩
  · refine gv_n hq 4 (S' := (12, [some (.ref 4), some (.int a1)], [.int (D 9 6), .int a1], D, E)) rfl ?_
    refine gv_b hq rfl h 19 15 rfl rfl rfl (fun h => ?_) (fun h => ?_)
    · refine gv_n hq 1 (S' := (20, [some (.ref 4), some (.int a1)], [.int (nI 0)], D, E)) rfl ?_
      subst h
      exact ev_ret hq rfl rfl ⟨rfl, rfl, rfl⟩
    · refine gv_n hq 2 (S' := (20, [some (.ref 4), some (.int a1)], [.int (nI 1)], D, E)) rfl ?_
      subst h
      exact ev_ret hq rfl rfl ⟨rfl, rfl, rfl⟩
theorem z_Church_hasPerson_4 (D : mx_D) (a1 : Int32) : g_Church_hasPerson_4 D a1 = 0 ∨ g_Church_hasPerson_4 D a1 = 1 := by
  unfold g_Church_hasPerson_4
  (repeat' split) <;> first | exact Or.inl rfl | exact Or.inr rfl
def g_Church_isSeated_4 (D : mx_D) (a1 : Int32) : Option (Int32) := (if (g_Church_hasPerson_4 D a1) = 0 then (some (nI 0)) else (rk 8 a1 (if (D 13 (a1).toNatClampNeg) = (-1 : Int32) then (some (nI 0)) else (some (nI 1)))))
set_option maxRecDepth 100000 in
set_option maxHeartbeats 4000000 in
theorem t_Church_isSeated_4 (X : ev_X) (d : Nat) (hd : 1 ≤ d + 1) (D : mx_D) (E : mx_E) (a1 : Int32) (v : Int32) (h : g_Church_isSeated_4 D a1 = some v) : ev X (d + 1) 11 (0, [some (.ref 4), some (.int a1)], [], D, E) (qR (some (.int v)) D E) := by
  have hq : kq_m 11 = some kq_q11 := rfl
  unfold g_Church_isSeated_4 at h
  refine gv_n hq 2 (S' := (2, [some (.ref 4), some (.int a1)], [.int a1, .ref 4], D, E)) rfl ?_
  refine gv_d hq rfl rfl rfl rfl rfl ((t_Church_hasPerson_4 X d D E _ _ rfl)) (S' := (5, [some (.ref 4), some (.int a1)], [.int (g_Church_hasPerson_4 D a1)], D, E)) rfl ?_
  refine gv_b hq rfl h 25 8 rfl rfl rfl (fun h => ?_) (fun h => ?_)
  · refine gv_n hq 1 (S' := (26, [some (.ref 4), some (.int a1)], [.int (nI 0)], D, E)) rfl ?_
    cases h
    exact ev_ret hq rfl rfl ⟨rfl, rfl, rfl⟩
  · refine gv_n hq 4 (S' := (16, [some (.ref 4), some (.int a1)], [.int a1, .ref 13], D, E)) rfl ?_
    refine gv_ia hq rfl rfl rfl h 17 rfl (fun h => ?_)
    refine gv_n hq 1 (S' := (18, [some (.ref 4), some (.int a1)], [.int (-1 : Int32), .int (D 13 (a1).toNatClampNeg)], D, E)) rfl ?_
    refine gv_b hq rfl h 25 21 rfl rfl rfl (fun h => ?_) (fun h => ?_)
    · refine gv_n hq 1 (S' := (26, [some (.ref 4), some (.int a1)], [.int (nI 0)], D, E)) rfl ?_
      cases h
      exact ev_ret hq rfl rfl ⟨rfl, rfl, rfl⟩
    · refine gv_n hq 2 (S' := (26, [some (.ref 4), some (.int a1)], [.int (nI 1)], D, E)) rfl ?_
      cases h
      exact ev_ret hq rfl rfl ⟨rfl, rfl, rfl⟩
def b_Church_sitterAt_4_2 (F : Nat) (D : mx_D) (k2 : Int32 → Int32 → Int32 → Option (Int32)) (l1 : Int32) (l2 : Int32) (l3 : Int32) : Option (Int32) := (if (D 9 6) ≤ l3 then (some (-1 : Int32)) else (Option.bind (g_Church_isSeated_4 D l3) (fun r1 => (if r1 = 0 then (k2 l1 l2 (l3 + (nI 1))) else (rk 8 l3 (if (D 13 (l3).toNatClampNeg) = l1 then (rk 8 l3 (if (D 14 (l3).toNatClampNeg) = l2 then (some l3) else (k2 l1 l2 (l3 + (nI 1))))) else (k2 l1 l2 (l3 + (nI 1)))))))))
set_option maxRecDepth 100000 in
set_option maxHeartbeats 4000000 in
theorem tb_Church_sitterAt_4_2 (X : ev_X) (F : Nat) (d : Nat) (hd : 2 ≤ d + 1) (D : mx_D) (E : mx_E) (k2 : Int32 → Int32 → Int32 → Option (Int32)) (K2 : ∀ (l1 : Int32) (l2 : Int32) (l3 : Int32) (v : Int32), k2 l1 l2 l3 = some v → ev X (d + 1) 13 (2, [some (.ref 4), some (.int l1), some (.int l2), some (.int l3)], [], D, E) (qR (some (.int v)) D E)) (l1 : Int32) (l2 : Int32) (l3 : Int32) (v : Int32) (h : b_Church_sitterAt_4_2 F D k2 l1 l2 l3 = some v) : ev X (d + 1) 13 (2, [some (.ref 4), some (.int l1), some (.int l2), some (.int l3)], [], D, E) (qR (some (.int v)) D E) := by
  have hq : kq_m 13 = some kq_q13 := rfl
  unfold b_Church_sitterAt_4_2 at h
  refine gv_n hq 4 (S' := (10, [some (.ref 4), some (.int l1), some (.int l2), some (.int l3)], [.int (D 9 6), .int l3], D, E)) rfl ?_
  refine gv_b hq rfl h 55 13 rfl rfl rfl (fun h => ?_) (fun h => ?_)
  · refine gv_n hq 1 (S' := (56, [some (.ref 4), some (.int l1), some (.int l2), some (.int l3)], [.int (-1 : Int32)], D, E)) rfl ?_
    cases h
    exact ev_ret hq rfl rfl ⟨rfl, rfl, rfl⟩
  · refine gv_n hq 2 (S' := (15, [some (.ref 4), some (.int l1), some (.int l2), some (.int l3)], [.int l3, .ref 4], D, E)) rfl ?_
    obtain ⟨r1, h1, h⟩ := Option.bind_eq_some_iff.mp h
    refine gv_d hq rfl rfl rfl rfl rfl (gv_dd (by omega) (t_Church_isSeated_4 X (d - 1) (by omega) D E _ _ h1)) (S' := (18, [some (.ref 4), some (.int l1), some (.int l2), some (.int l3)], [.int r1], D, E)) rfl ?_
    refine gv_b hq rfl h 49 21 rfl rfl rfl (fun h => ?_) (fun h => ?_)
    · refine gv_n hq 2 (S' := (2, [some (.ref 4), some (.int l1), some (.int l2), some (.int (l3 + (nI 1)))], [], D, E)) rfl ?_
      exact gv_w (K2 _ _ _ _ h) (And.intro rfl (And.intro rfl (And.intro rfl (And.intro rfl trivial))))
    · refine gv_n hq 4 (S' := (29, [some (.ref 4), some (.int l1), some (.int l2), some (.int l3)], [.int l3, .ref 13], D, E)) rfl ?_
      refine gv_ia hq rfl rfl rfl h 30 rfl (fun h => ?_)
      refine gv_n hq 1 (S' := (31, [some (.ref 4), some (.int l1), some (.int l2), some (.int l3)], [.int l1, .int (D 13 (l3).toNatClampNeg)], D, E)) rfl ?_
      refine gv_b hq rfl h 34 49 rfl rfl rfl (fun h => ?_) (fun h => ?_)
      · refine gv_n hq 4 (S' := (42, [some (.ref 4), some (.int l1), some (.int l2), some (.int l3)], [.int l3, .ref 14], D, E)) rfl ?_
        refine gv_ia hq rfl rfl rfl h 43 rfl (fun h => ?_)
        refine gv_n hq 1 (S' := (44, [some (.ref 4), some (.int l1), some (.int l2), some (.int l3)], [.int l2, .int (D 14 (l3).toNatClampNeg)], D, E)) rfl ?_
        refine gv_b hq rfl h 47 49 rfl rfl rfl (fun h => ?_) (fun h => ?_)
        · refine gv_n hq 1 (S' := (48, [some (.ref 4), some (.int l1), some (.int l2), some (.int l3)], [.int l3], D, E)) rfl ?_
          cases h
          exact ev_ret hq rfl rfl ⟨rfl, rfl, rfl⟩
        · refine gv_n hq 2 (S' := (2, [some (.ref 4), some (.int l1), some (.int l2), some (.int (l3 + (nI 1)))], [], D, E)) rfl ?_
          exact gv_w (K2 _ _ _ _ h) (And.intro rfl (And.intro rfl (And.intro rfl (And.intro rfl trivial))))
      · refine gv_n hq 2 (S' := (2, [some (.ref 4), some (.int l1), some (.int l2), some (.int (l3 + (nI 1)))], [], D, E)) rfl ?_
        exact gv_w (K2 _ _ _ _ h) (And.intro rfl (And.intro rfl (And.intro rfl (And.intro rfl trivial))))
def g_Church_sitterAt_4_2 (F : Nat) (D : mx_D) : Nat → Int32 → Int32 → Int32 → Option (Int32) := it (fun k2 => b_Church_sitterAt_4_2 F D k2) (fun _ _ _ => none)
set_option maxRecDepth 100000 in
set_option maxHeartbeats 4000000 in
theorem t_Church_sitterAt_4_2 (X : ev_X) (F : Nat) (d : Nat) (hd : 2 ≤ d + 1) (D : mx_D) (E : mx_E)  : ∀ (n : Nat) (l1 : Int32) (l2 : Int32) (l3 : Int32) (v : Int32), g_Church_sitterAt_4_2 F D n l1 l2 l3 = some v → ev X (d + 1) 13 (2, [some (.ref 4), some (.int l1), some (.int l2), some (.int l3)], [], D, E) (qR (some (.int v)) D E) := by
  intro n
  induction n with
  | zero => intro l1 l2 l3 v h; cases h
  | succ n ih => intro l1 l2 l3 v h; exact tb_Church_sitterAt_4_2 X F d hd D E (g_Church_sitterAt_4_2 F D n) ih l1 l2 l3 v h
def g_Church_sitterAt_4 (F : Nat) (D : mx_D) (a1 : Int32) (a2 : Int32) : Option (Int32) := (g_Church_sitterAt_4_2 F D F a1 a2 (nI 0))
set_option maxRecDepth 100000 in
set_option maxHeartbeats 4000000 in
theorem t_Church_sitterAt_4 (X : ev_X) (F : Nat) (d : Nat) (hd : 2 ≤ d + 1) (D : mx_D) (E : mx_E) (a1 : Int32) (a2 : Int32) (v : Int32) (h : g_Church_sitterAt_4 F D a1 a2 = some v) : ev X (d + 1) 13 (0, [some (.ref 4), some (.int a1), some (.int a2), none], [], D, E) (qR (some (.int v)) D E) := by
  have hq : kq_m 13 = some kq_q13 := rfl
  unfold g_Church_sitterAt_4 at h
  refine gv_n hq 2 (S' := (2, [some (.ref 4), some (.int a1), some (.int a2), some (.int (nI 0))], [], D, E)) rfl ?_
  exact gv_w (t_Church_sitterAt_4_2 X F d hd D E F _ _ _ _ h) (And.intro rfl (And.intro rfl (And.intro rfl (And.intro rfl trivial))))
def b_Reader_readSits_85 (F : Nat) (l1 : Int32) (l2 : Int32) (l3 : Int32) (s1 : Int32) (D : mx_D) : Option (mx_D) := (if ((g_Reader_refuseNumberIf s1 D) 3 1) = 0 then (rk 8 l1 (rk 8 l1 (some (sD (sD (g_Reader_refuseNumberIf s1 D) 13 (l1).toNatClampNeg l2) 14 (l1).toNatClampNeg l3)))) else (some (g_Reader_refuseNumberIf s1 D)))
set_option maxRecDepth 100000 in
set_option maxHeartbeats 4000000 in
theorem tb_Reader_readSits_85 (X : ev_X) (F : Nat) (d : Nat) (hd : 11 ≤ d + 1) (E : mx_E)  (l1 : Int32) (l2 : Int32) (l3 : Int32) (s1 : Int32) (D : mx_D) (v : mx_D) (h : b_Reader_readSits_85 F l1 l2 l3 s1 D = some v) : ev X (d + 1) 71 (85, [some (.ref 3), some (.int l1), some (.int l2), some (.int l3)], [.int s1, .ref 3], D, E) (qR none v E) := by
  have hq : kq_m 71 = some kq_q71 := rfl
  unfold b_Reader_readSits_85 at h
  refine gv_d hq rfl rfl rfl rfl rfl (gv_dd (by omega) (t_Reader_refuseNumberIf X (d - 1) (by omega) E _ _ _ rfl)) (S' := (88, [some (.ref 3), some (.int l1), some (.int l2), some (.int l3)], [], (g_Reader_refuseNumberIf s1 D), E)) rfl ?_
  refine gv_n hq 2 (S' := (92, [some (.ref 3), some (.int l1), some (.int l2), some (.int l3)], [.int ((g_Reader_refuseNumberIf s1 D) 3 1)], (g_Reader_refuseNumberIf s1 D), E)) rfl ?_
  refine gv_b hq rfl h 95 121 rfl rfl rfl (fun h => ?_) (fun h => ?_)
  · refine gv_n hq 6 (S' := (107, [some (.ref 3), some (.int l1), some (.int l2), some (.int l3)], [.int l2, .int l1, .ref 13], (g_Reader_refuseNumberIf s1 D), E)) rfl ?_
    refine gv_is hq rfl rfl h 108 rfl (fun h => ?_)
    refine gv_n hq 6 (S' := (120, [some (.ref 3), some (.int l1), some (.int l2), some (.int l3)], [.int l3, .int l1, .ref 14], (sD (g_Reader_refuseNumberIf s1 D) 13 (l1).toNatClampNeg l2), E)) rfl ?_
    refine gv_is hq rfl rfl h 121 rfl (fun h => ?_)
    cases h
    exact ev_ret hq rfl rfl ⟨rfl, rfl, rfl⟩
  · cases h
    exact ev_ret hq rfl rfl ⟨rfl, rfl, rfl⟩
def g_Reader_readSits (F : Nat) (D : mx_D) : Option (mx_D) := (Option.bind (g_Reader_takeWord F 1016 D) (fun r1 => (Option.bind (g_Reader_takeNumber F (nI 0) ((r1 9 6) - (nI 1)) r1) (fun r2 => (Option.bind (g_Church_isSeated_4 r2.2 r2.1) (fun r3 => (Option.bind (g_Reader_takeNumber F (nI 0) (((g_Reader_refuseNumberIf r3 r2.2) 4 0) - (nI 1)) (g_Reader_refuseNumberIf r3 r2.2)) (fun r4 => (Option.bind (g_Reader_takeNumber F (nI 0) ((r4.2 4 1) - (nI 1)) r4.2) (fun r5 => (Option.bind (g_Church_sitterAt_4 F r5.2 r4.1 r5.1) (fun r6 => (if r6 = (-1 : Int32) then (b_Reader_readSits_85 F r2.1 r4.1 r5.1 (nI 0) r5.2) else (b_Reader_readSits_85 F r2.1 r4.1 r5.1 (nI 1) r5.2))))))))))))))
set_option maxRecDepth 100000 in
set_option maxHeartbeats 4000000 in
theorem t_Reader_readSits (X : ev_X) (F : Nat) (d : Nat) (hd : 11 ≤ d + 1) (E : mx_E) (D : mx_D) (v : mx_D) (h : g_Reader_readSits F D = some v) : ev X (d + 1) 71 (0, [some (.ref 3), none, none, none], [], D, E) (qR none v E) := by
  have hq : kq_m 71 = some kq_q71 := rfl
  unfold g_Reader_readSits at h
  refine gv_n hq 2 (S' := (3, [some (.ref 3), none, none, none], [.ref 1016, .ref 3], D, E)) rfl ?_
  obtain ⟨r1, h1, h⟩ := Option.bind_eq_some_iff.mp h
  refine gv_d hq rfl rfl rfl rfl rfl (gv_dd (by omega) (t_Reader_takeWord X F (d - 1) (by omega) E _ _ _ h1)) (S' := (6, [some (.ref 3), none, none, none], [], r1, E)) rfl ?_
  refine gv_n hq 8 (S' := (20, [some (.ref 3), none, none, none], [.int ((r1 9 6) - (nI 1)), .int (nI 0), .ref 3], r1, E)) rfl ?_
  obtain ⟨r2, h1, h⟩ := Option.bind_eq_some_iff.mp h
  refine gv_d hq rfl rfl rfl rfl rfl (gv_dd (by omega) (t_Reader_takeNumber X F (d - 1) (by omega) E _ _ _ _ h1)) (S' := (23, [some (.ref 3), none, none, none], [.int r2.1], r2.2, E)) rfl ?_
  refine gv_n hq 5 (S' := (30, [some (.ref 3), some (.int r2.1), none, none], [.int r2.1, .ref 4, .ref 3], r2.2, E)) rfl ?_
  obtain ⟨r3, h1, h⟩ := Option.bind_eq_some_iff.mp h
  refine gv_d hq rfl rfl rfl rfl rfl (gv_dd (by omega) (t_Church_isSeated_4 X (d - 1) (by omega) r2.2 E _ _ h1)) (S' := (33, [some (.ref 3), some (.int r2.1), none, none], [.int r3, .ref 3], r2.2, E)) rfl ?_
  refine gv_d hq rfl rfl rfl rfl rfl (gv_dd (by omega) (t_Reader_refuseNumberIf X (d - 1) (by omega) E _ _ _ rfl)) (S' := (36, [some (.ref 3), some (.int r2.1), none, none], [], (g_Reader_refuseNumberIf r3 r2.2), E)) rfl ?_
  refine gv_n hq 7 (S' := (47, [some (.ref 3), some (.int r2.1), none, none], [.int (((g_Reader_refuseNumberIf r3 r2.2) 4 0) - (nI 1)), .int (nI 0), .ref 3], (g_Reader_refuseNumberIf r3 r2.2), E)) rfl ?_
  obtain ⟨r4, h1, h⟩ := Option.bind_eq_some_iff.mp h
  refine gv_d hq rfl rfl rfl rfl rfl (gv_dd (by omega) (t_Reader_takeNumber X F (d - 1) (by omega) E _ _ _ _ h1)) (S' := (50, [some (.ref 3), some (.int r2.1), none, none], [.int r4.1], r4.2, E)) rfl ?_
  refine gv_n hq 8 (S' := (62, [some (.ref 3), some (.int r2.1), some (.int r4.1), none], [.int ((r4.2 4 1) - (nI 1)), .int (nI 0), .ref 3], r4.2, E)) rfl ?_
  obtain ⟨r5, h1, h⟩ := Option.bind_eq_some_iff.mp h
  refine gv_d hq rfl rfl rfl rfl rfl (gv_dd (by omega) (t_Reader_takeNumber X F (d - 1) (by omega) E _ _ _ _ h1)) (S' := (65, [some (.ref 3), some (.int r2.1), some (.int r4.1), none], [.int r5.1], r5.2, E)) rfl ?_
  refine gv_n hq 6 (S' := (73, [some (.ref 3), some (.int r2.1), some (.int r4.1), some (.int r5.1)], [.int r5.1, .int r4.1, .ref 4, .ref 3], r5.2, E)) rfl ?_
  obtain ⟨r6, h1, h⟩ := Option.bind_eq_some_iff.mp h
  refine gv_d hq rfl rfl rfl rfl rfl (gv_dd (by omega) (t_Church_sitterAt_4 X F (d - 1) (by omega) r5.2 E _ _ _ h1)) (S' := (76, [some (.ref 3), some (.int r2.1), some (.int r4.1), some (.int r5.1)], [.int r6, .ref 3], r5.2, E)) rfl ?_
  refine gv_n hq 1 (S' := (77, [some (.ref 3), some (.int r2.1), some (.int r4.1), some (.int r5.1)], [.int (-1 : Int32), .int r6, .ref 3], r5.2, E)) rfl ?_
  refine gv_b hq rfl h 84 80 rfl rfl rfl (fun h => ?_) (fun h => ?_)
  · refine gv_n hq 1 (S' := (85, [some (.ref 3), some (.int r2.1), some (.int r4.1), some (.int r5.1)], [.int (nI 0), .ref 3], r5.2, E)) rfl ?_
    exact gv_w (tb_Reader_readSits_85 X F d hd E _ _ _ _ _ _ h) (And.intro rfl (And.intro rfl (And.intro rfl (And.intro rfl trivial))))
  · refine gv_n hq 2 (S' := (85, [some (.ref 3), some (.int r2.1), some (.int r4.1), some (.int r5.1)], [.int (nI 1), .ref 3], r5.2, E)) rfl ?_
    exact gv_w (tb_Reader_readSits_85 X F d hd E _ _ _ _ _ _ h) (And.intro rfl (And.intro rfl (And.intro rfl (And.intro rfl trivial))))
def g_People_add_9 (a1 : Int32) (a2 : Int32) (a3 : Int32) (D : mx_D) : Option (mx_D) := (if (D 9 6) < (nI 8) then (rk 8 (D 9 6) (rk 8 ((sD D 10 ((D 9 6)).toNatClampNeg a1) 9 6) (rk 8 ((sD (sD D 10 ((D 9 6)).toNatClampNeg a1) 11 (((sD D 10 ((D 9 6)).toNatClampNeg a1) 9 6)).toNatClampNeg a2) 9 6) (rk 8 ((sD (sD (sD D 10 ((D 9 6)).toNatClampNeg a1) 11 (((sD D 10 ((D 9 6)).toNatClampNeg a1) 9 6)).toNatClampNeg a2) 12 (((sD (sD D 10 ((D 9 6)).toNatClampNeg a1) 11 (((sD D 10 ((D 9 6)).toNatClampNeg a1) 9 6)).toNatClampNeg a2) 9 6)).toNatClampNeg a3) 9 6) (rk 8 ((sD (sD (sD (sD D 10 ((D 9 6)).toNatClampNeg a1) 11 (((sD D 10 ((D 9 6)).toNatClampNeg a1) 9 6)).toNatClampNeg a2) 12 (((sD (sD D 10 ((D 9 6)).toNatClampNeg a1) 11 (((sD D 10 ((D 9 6)).toNatClampNeg a1) 9 6)).toNatClampNeg a2) 9 6)).toNatClampNeg a3) 13 (((sD (sD (sD D 10 ((D 9 6)).toNatClampNeg a1) 11 (((sD D 10 ((D 9 6)).toNatClampNeg a1) 9 6)).toNatClampNeg a2) 12 (((sD (sD D 10 ((D 9 6)).toNatClampNeg a1) 11 (((sD D 10 ((D 9 6)).toNatClampNeg a1) 9 6)).toNatClampNeg a2) 9 6)).toNatClampNeg a3) 9 6)).toNatClampNeg (-1 : Int32)) 9 6) (rk 8 ((sD (sD (sD (sD (sD D 10 ((D 9 6)).toNatClampNeg a1) 11 (((sD D 10 ((D 9 6)).toNatClampNeg a1) 9 6)).toNatClampNeg a2) 12 (((sD (sD D 10 ((D 9 6)).toNatClampNeg a1) 11 (((sD D 10 ((D 9 6)).toNatClampNeg a1) 9 6)).toNatClampNeg a2) 9 6)).toNatClampNeg a3) 13 (((sD (sD (sD D 10 ((D 9 6)).toNatClampNeg a1) 11 (((sD D 10 ((D 9 6)).toNatClampNeg a1) 9 6)).toNatClampNeg a2) 12 (((sD (sD D 10 ((D 9 6)).toNatClampNeg a1) 11 (((sD D 10 ((D 9 6)).toNatClampNeg a1) 9 6)).toNatClampNeg a2) 9 6)).toNatClampNeg a3) 9 6)).toNatClampNeg (-1 : Int32)) 14 (((sD (sD (sD (sD D 10 ((D 9 6)).toNatClampNeg a1) 11 (((sD D 10 ((D 9 6)).toNatClampNeg a1) 9 6)).toNatClampNeg a2) 12 (((sD (sD D 10 ((D 9 6)).toNatClampNeg a1) 11 (((sD D 10 ((D 9 6)).toNatClampNeg a1) 9 6)).toNatClampNeg a2) 9 6)).toNatClampNeg a3) 13 (((sD (sD (sD D 10 ((D 9 6)).toNatClampNeg a1) 11 (((sD D 10 ((D 9 6)).toNatClampNeg a1) 9 6)).toNatClampNeg a2) 12 (((sD (sD D 10 ((D 9 6)).toNatClampNeg a1) 11 (((sD D 10 ((D 9 6)).toNatClampNeg a1) 9 6)).toNatClampNeg a2) 9 6)).toNatClampNeg a3) 9 6)).toNatClampNeg (-1 : Int32)) 9 6)).toNatClampNeg (-1 : Int32)) 9 6) (some (sD (sD (sD (sD (sD (sD (sD D 10 ((D 9 6)).toNatClampNeg a1) 11 (((sD D 10 ((D 9 6)).toNatClampNeg a1) 9 6)).toNatClampNeg a2) 12 (((sD (sD D 10 ((D 9 6)).toNatClampNeg a1) 11 (((sD D 10 ((D 9 6)).toNatClampNeg a1) 9 6)).toNatClampNeg a2) 9 6)).toNatClampNeg a3) 13 (((sD (sD (sD D 10 ((D 9 6)).toNatClampNeg a1) 11 (((sD D 10 ((D 9 6)).toNatClampNeg a1) 9 6)).toNatClampNeg a2) 12 (((sD (sD D 10 ((D 9 6)).toNatClampNeg a1) 11 (((sD D 10 ((D 9 6)).toNatClampNeg a1) 9 6)).toNatClampNeg a2) 9 6)).toNatClampNeg a3) 9 6)).toNatClampNeg (-1 : Int32)) 14 (((sD (sD (sD (sD D 10 ((D 9 6)).toNatClampNeg a1) 11 (((sD D 10 ((D 9 6)).toNatClampNeg a1) 9 6)).toNatClampNeg a2) 12 (((sD (sD D 10 ((D 9 6)).toNatClampNeg a1) 11 (((sD D 10 ((D 9 6)).toNatClampNeg a1) 9 6)).toNatClampNeg a2) 9 6)).toNatClampNeg a3) 13 (((sD (sD (sD D 10 ((D 9 6)).toNatClampNeg a1) 11 (((sD D 10 ((D 9 6)).toNatClampNeg a1) 9 6)).toNatClampNeg a2) 12 (((sD (sD D 10 ((D 9 6)).toNatClampNeg a1) 11 (((sD D 10 ((D 9 6)).toNatClampNeg a1) 9 6)).toNatClampNeg a2) 9 6)).toNatClampNeg a3) 9 6)).toNatClampNeg (-1 : Int32)) 9 6)).toNatClampNeg (-1 : Int32)) 15 (((sD (sD (sD (sD (sD D 10 ((D 9 6)).toNatClampNeg a1) 11 (((sD D 10 ((D 9 6)).toNatClampNeg a1) 9 6)).toNatClampNeg a2) 12 (((sD (sD D 10 ((D 9 6)).toNatClampNeg a1) 11 (((sD D 10 ((D 9 6)).toNatClampNeg a1) 9 6)).toNatClampNeg a2) 9 6)).toNatClampNeg a3) 13 (((sD (sD (sD D 10 ((D 9 6)).toNatClampNeg a1) 11 (((sD D 10 ((D 9 6)).toNatClampNeg a1) 9 6)).toNatClampNeg a2) 12 (((sD (sD D 10 ((D 9 6)).toNatClampNeg a1) 11 (((sD D 10 ((D 9 6)).toNatClampNeg a1) 9 6)).toNatClampNeg a2) 9 6)).toNatClampNeg a3) 9 6)).toNatClampNeg (-1 : Int32)) 14 (((sD (sD (sD (sD D 10 ((D 9 6)).toNatClampNeg a1) 11 (((sD D 10 ((D 9 6)).toNatClampNeg a1) 9 6)).toNatClampNeg a2) 12 (((sD (sD D 10 ((D 9 6)).toNatClampNeg a1) 11 (((sD D 10 ((D 9 6)).toNatClampNeg a1) 9 6)).toNatClampNeg a2) 9 6)).toNatClampNeg a3) 13 (((sD (sD (sD D 10 ((D 9 6)).toNatClampNeg a1) 11 (((sD D 10 ((D 9 6)).toNatClampNeg a1) 9 6)).toNatClampNeg a2) 12 (((sD (sD D 10 ((D 9 6)).toNatClampNeg a1) 11 (((sD D 10 ((D 9 6)).toNatClampNeg a1) 9 6)).toNatClampNeg a2) 9 6)).toNatClampNeg a3) 9 6)).toNatClampNeg (-1 : Int32)) 9 6)).toNatClampNeg (-1 : Int32)) 9 6)).toNatClampNeg (-1 : Int32)) 9 6 (((sD (sD (sD (sD (sD (sD D 10 ((D 9 6)).toNatClampNeg a1) 11 (((sD D 10 ((D 9 6)).toNatClampNeg a1) 9 6)).toNatClampNeg a2) 12 (((sD (sD D 10 ((D 9 6)).toNatClampNeg a1) 11 (((sD D 10 ((D 9 6)).toNatClampNeg a1) 9 6)).toNatClampNeg a2) 9 6)).toNatClampNeg a3) 13 (((sD (sD (sD D 10 ((D 9 6)).toNatClampNeg a1) 11 (((sD D 10 ((D 9 6)).toNatClampNeg a1) 9 6)).toNatClampNeg a2) 12 (((sD (sD D 10 ((D 9 6)).toNatClampNeg a1) 11 (((sD D 10 ((D 9 6)).toNatClampNeg a1) 9 6)).toNatClampNeg a2) 9 6)).toNatClampNeg a3) 9 6)).toNatClampNeg (-1 : Int32)) 14 (((sD (sD (sD (sD D 10 ((D 9 6)).toNatClampNeg a1) 11 (((sD D 10 ((D 9 6)).toNatClampNeg a1) 9 6)).toNatClampNeg a2) 12 (((sD (sD D 10 ((D 9 6)).toNatClampNeg a1) 11 (((sD D 10 ((D 9 6)).toNatClampNeg a1) 9 6)).toNatClampNeg a2) 9 6)).toNatClampNeg a3) 13 (((sD (sD (sD D 10 ((D 9 6)).toNatClampNeg a1) 11 (((sD D 10 ((D 9 6)).toNatClampNeg a1) 9 6)).toNatClampNeg a2) 12 (((sD (sD D 10 ((D 9 6)).toNatClampNeg a1) 11 (((sD D 10 ((D 9 6)).toNatClampNeg a1) 9 6)).toNatClampNeg a2) 9 6)).toNatClampNeg a3) 9 6)).toNatClampNeg (-1 : Int32)) 9 6)).toNatClampNeg (-1 : Int32)) 15 (((sD (sD (sD (sD (sD D 10 ((D 9 6)).toNatClampNeg a1) 11 (((sD D 10 ((D 9 6)).toNatClampNeg a1) 9 6)).toNatClampNeg a2) 12 (((sD (sD D 10 ((D 9 6)).toNatClampNeg a1) 11 (((sD D 10 ((D 9 6)).toNatClampNeg a1) 9 6)).toNatClampNeg a2) 9 6)).toNatClampNeg a3) 13 (((sD (sD (sD D 10 ((D 9 6)).toNatClampNeg a1) 11 (((sD D 10 ((D 9 6)).toNatClampNeg a1) 9 6)).toNatClampNeg a2) 12 (((sD (sD D 10 ((D 9 6)).toNatClampNeg a1) 11 (((sD D 10 ((D 9 6)).toNatClampNeg a1) 9 6)).toNatClampNeg a2) 9 6)).toNatClampNeg a3) 9 6)).toNatClampNeg (-1 : Int32)) 14 (((sD (sD (sD (sD D 10 ((D 9 6)).toNatClampNeg a1) 11 (((sD D 10 ((D 9 6)).toNatClampNeg a1) 9 6)).toNatClampNeg a2) 12 (((sD (sD D 10 ((D 9 6)).toNatClampNeg a1) 11 (((sD D 10 ((D 9 6)).toNatClampNeg a1) 9 6)).toNatClampNeg a2) 9 6)).toNatClampNeg a3) 13 (((sD (sD (sD D 10 ((D 9 6)).toNatClampNeg a1) 11 (((sD D 10 ((D 9 6)).toNatClampNeg a1) 9 6)).toNatClampNeg a2) 12 (((sD (sD D 10 ((D 9 6)).toNatClampNeg a1) 11 (((sD D 10 ((D 9 6)).toNatClampNeg a1) 9 6)).toNatClampNeg a2) 9 6)).toNatClampNeg a3) 9 6)).toNatClampNeg (-1 : Int32)) 9 6)).toNatClampNeg (-1 : Int32)) 9 6)).toNatClampNeg (-1 : Int32)) 9 6) + (nI 1)))))))))) else (some D))
set_option maxRecDepth 100000 in
set_option maxHeartbeats 4000000 in
theorem t_People_add_9 (X : ev_X) (d : Nat) (E : mx_E) (a1 : Int32) (a2 : Int32) (a3 : Int32) (D : mx_D) (v : mx_D) (h : g_People_add_9 a1 a2 a3 D = some v) : ev X d 55 (0, [some (.ref 9), some (.int a1), some (.int a2), some (.int a3)], [], D, E) (qR none v E) := by
  have hq : kq_m 55 = some kq_q55 := rfl
  unfold g_People_add_9 at h
  refine gv_n hq 3 (S' := (6, [some (.ref 9), some (.int a1), some (.int a2), some (.int a3)], [.int (nI 8), .int (D 9 6)], D, E)) rfl ?_
  refine gv_b hq rfl h 10 9 rfl rfl rfl (fun h => ?_) (fun h => ?_)
  · refine gv_n hq 5 (S' := (19, [some (.ref 9), some (.int a1), some (.int a2), some (.int a3)], [.int a1, .int (D 9 6), .ref 10], D, E)) rfl ?_
    refine gv_is hq rfl rfl h 20 rfl (fun h => ?_)
    refine gv_n hq 5 (S' := (29, [some (.ref 9), some (.int a1), some (.int a2), some (.int a3)], [.int a2, .int ((sD D 10 ((D 9 6)).toNatClampNeg a1) 9 6), .ref 11], (sD D 10 ((D 9 6)).toNatClampNeg a1), E)) rfl ?_
    refine gv_is hq rfl rfl h 30 rfl (fun h => ?_)
    refine gv_n hq 5 (S' := (39, [some (.ref 9), some (.int a1), some (.int a2), some (.int a3)], [.int a3, .int ((sD (sD D 10 ((D 9 6)).toNatClampNeg a1) 11 (((sD D 10 ((D 9 6)).toNatClampNeg a1) 9 6)).toNatClampNeg a2) 9 6), .ref 12], (sD (sD D 10 ((D 9 6)).toNatClampNeg a1) 11 (((sD D 10 ((D 9 6)).toNatClampNeg a1) 9 6)).toNatClampNeg a2), E)) rfl ?_
    refine gv_is hq rfl rfl h 40 rfl (fun h => ?_)
    refine gv_n hq 5 (S' := (49, [some (.ref 9), some (.int a1), some (.int a2), some (.int a3)], [.int (-1 : Int32), .int ((sD (sD (sD D 10 ((D 9 6)).toNatClampNeg a1) 11 (((sD D 10 ((D 9 6)).toNatClampNeg a1) 9 6)).toNatClampNeg a2) 12 (((sD (sD D 10 ((D 9 6)).toNatClampNeg a1) 11 (((sD D 10 ((D 9 6)).toNatClampNeg a1) 9 6)).toNatClampNeg a2) 9 6)).toNatClampNeg a3) 9 6), .ref 13], (sD (sD (sD D 10 ((D 9 6)).toNatClampNeg a1) 11 (((sD D 10 ((D 9 6)).toNatClampNeg a1) 9 6)).toNatClampNeg a2) 12 (((sD (sD D 10 ((D 9 6)).toNatClampNeg a1) 11 (((sD D 10 ((D 9 6)).toNatClampNeg a1) 9 6)).toNatClampNeg a2) 9 6)).toNatClampNeg a3), E)) rfl ?_
    refine gv_is hq rfl rfl h 50 rfl (fun h => ?_)
    refine gv_n hq 5 (S' := (59, [some (.ref 9), some (.int a1), some (.int a2), some (.int a3)], [.int (-1 : Int32), .int ((sD (sD (sD (sD D 10 ((D 9 6)).toNatClampNeg a1) 11 (((sD D 10 ((D 9 6)).toNatClampNeg a1) 9 6)).toNatClampNeg a2) 12 (((sD (sD D 10 ((D 9 6)).toNatClampNeg a1) 11 (((sD D 10 ((D 9 6)).toNatClampNeg a1) 9 6)).toNatClampNeg a2) 9 6)).toNatClampNeg a3) 13 (((sD (sD (sD D 10 ((D 9 6)).toNatClampNeg a1) 11 (((sD D 10 ((D 9 6)).toNatClampNeg a1) 9 6)).toNatClampNeg a2) 12 (((sD (sD D 10 ((D 9 6)).toNatClampNeg a1) 11 (((sD D 10 ((D 9 6)).toNatClampNeg a1) 9 6)).toNatClampNeg a2) 9 6)).toNatClampNeg a3) 9 6)).toNatClampNeg (-1 : Int32)) 9 6), .ref 14], (sD (sD (sD (sD D 10 ((D 9 6)).toNatClampNeg a1) 11 (((sD D 10 ((D 9 6)).toNatClampNeg a1) 9 6)).toNatClampNeg a2) 12 (((sD (sD D 10 ((D 9 6)).toNatClampNeg a1) 11 (((sD D 10 ((D 9 6)).toNatClampNeg a1) 9 6)).toNatClampNeg a2) 9 6)).toNatClampNeg a3) 13 (((sD (sD (sD D 10 ((D 9 6)).toNatClampNeg a1) 11 (((sD D 10 ((D 9 6)).toNatClampNeg a1) 9 6)).toNatClampNeg a2) 12 (((sD (sD D 10 ((D 9 6)).toNatClampNeg a1) 11 (((sD D 10 ((D 9 6)).toNatClampNeg a1) 9 6)).toNatClampNeg a2) 9 6)).toNatClampNeg a3) 9 6)).toNatClampNeg (-1 : Int32)), E)) rfl ?_
    refine gv_is hq rfl rfl h 60 rfl (fun h => ?_)
    refine gv_n hq 5 (S' := (69, [some (.ref 9), some (.int a1), some (.int a2), some (.int a3)], [.int (-1 : Int32), .int ((sD (sD (sD (sD (sD D 10 ((D 9 6)).toNatClampNeg a1) 11 (((sD D 10 ((D 9 6)).toNatClampNeg a1) 9 6)).toNatClampNeg a2) 12 (((sD (sD D 10 ((D 9 6)).toNatClampNeg a1) 11 (((sD D 10 ((D 9 6)).toNatClampNeg a1) 9 6)).toNatClampNeg a2) 9 6)).toNatClampNeg a3) 13 (((sD (sD (sD D 10 ((D 9 6)).toNatClampNeg a1) 11 (((sD D 10 ((D 9 6)).toNatClampNeg a1) 9 6)).toNatClampNeg a2) 12 (((sD (sD D 10 ((D 9 6)).toNatClampNeg a1) 11 (((sD D 10 ((D 9 6)).toNatClampNeg a1) 9 6)).toNatClampNeg a2) 9 6)).toNatClampNeg a3) 9 6)).toNatClampNeg (-1 : Int32)) 14 (((sD (sD (sD (sD D 10 ((D 9 6)).toNatClampNeg a1) 11 (((sD D 10 ((D 9 6)).toNatClampNeg a1) 9 6)).toNatClampNeg a2) 12 (((sD (sD D 10 ((D 9 6)).toNatClampNeg a1) 11 (((sD D 10 ((D 9 6)).toNatClampNeg a1) 9 6)).toNatClampNeg a2) 9 6)).toNatClampNeg a3) 13 (((sD (sD (sD D 10 ((D 9 6)).toNatClampNeg a1) 11 (((sD D 10 ((D 9 6)).toNatClampNeg a1) 9 6)).toNatClampNeg a2) 12 (((sD (sD D 10 ((D 9 6)).toNatClampNeg a1) 11 (((sD D 10 ((D 9 6)).toNatClampNeg a1) 9 6)).toNatClampNeg a2) 9 6)).toNatClampNeg a3) 9 6)).toNatClampNeg (-1 : Int32)) 9 6)).toNatClampNeg (-1 : Int32)) 9 6), .ref 15], (sD (sD (sD (sD (sD D 10 ((D 9 6)).toNatClampNeg a1) 11 (((sD D 10 ((D 9 6)).toNatClampNeg a1) 9 6)).toNatClampNeg a2) 12 (((sD (sD D 10 ((D 9 6)).toNatClampNeg a1) 11 (((sD D 10 ((D 9 6)).toNatClampNeg a1) 9 6)).toNatClampNeg a2) 9 6)).toNatClampNeg a3) 13 (((sD (sD (sD D 10 ((D 9 6)).toNatClampNeg a1) 11 (((sD D 10 ((D 9 6)).toNatClampNeg a1) 9 6)).toNatClampNeg a2) 12 (((sD (sD D 10 ((D 9 6)).toNatClampNeg a1) 11 (((sD D 10 ((D 9 6)).toNatClampNeg a1) 9 6)).toNatClampNeg a2) 9 6)).toNatClampNeg a3) 9 6)).toNatClampNeg (-1 : Int32)) 14 (((sD (sD (sD (sD D 10 ((D 9 6)).toNatClampNeg a1) 11 (((sD D 10 ((D 9 6)).toNatClampNeg a1) 9 6)).toNatClampNeg a2) 12 (((sD (sD D 10 ((D 9 6)).toNatClampNeg a1) 11 (((sD D 10 ((D 9 6)).toNatClampNeg a1) 9 6)).toNatClampNeg a2) 9 6)).toNatClampNeg a3) 13 (((sD (sD (sD D 10 ((D 9 6)).toNatClampNeg a1) 11 (((sD D 10 ((D 9 6)).toNatClampNeg a1) 9 6)).toNatClampNeg a2) 12 (((sD (sD D 10 ((D 9 6)).toNatClampNeg a1) 11 (((sD D 10 ((D 9 6)).toNatClampNeg a1) 9 6)).toNatClampNeg a2) 9 6)).toNatClampNeg a3) 9 6)).toNatClampNeg (-1 : Int32)) 9 6)).toNatClampNeg (-1 : Int32)), E)) rfl ?_
    refine gv_is hq rfl rfl h 70 rfl (fun h => ?_)
    refine gv_n hq 6 (S' := (80, [some (.ref 9), some (.int a1), some (.int a2), some (.int a3)], [], (sD (sD (sD (sD (sD (sD (sD D 10 ((D 9 6)).toNatClampNeg a1) 11 (((sD D 10 ((D 9 6)).toNatClampNeg a1) 9 6)).toNatClampNeg a2) 12 (((sD (sD D 10 ((D 9 6)).toNatClampNeg a1) 11 (((sD D 10 ((D 9 6)).toNatClampNeg a1) 9 6)).toNatClampNeg a2) 9 6)).toNatClampNeg a3) 13 (((sD (sD (sD D 10 ((D 9 6)).toNatClampNeg a1) 11 (((sD D 10 ((D 9 6)).toNatClampNeg a1) 9 6)).toNatClampNeg a2) 12 (((sD (sD D 10 ((D 9 6)).toNatClampNeg a1) 11 (((sD D 10 ((D 9 6)).toNatClampNeg a1) 9 6)).toNatClampNeg a2) 9 6)).toNatClampNeg a3) 9 6)).toNatClampNeg (-1 : Int32)) 14 (((sD (sD (sD (sD D 10 ((D 9 6)).toNatClampNeg a1) 11 (((sD D 10 ((D 9 6)).toNatClampNeg a1) 9 6)).toNatClampNeg a2) 12 (((sD (sD D 10 ((D 9 6)).toNatClampNeg a1) 11 (((sD D 10 ((D 9 6)).toNatClampNeg a1) 9 6)).toNatClampNeg a2) 9 6)).toNatClampNeg a3) 13 (((sD (sD (sD D 10 ((D 9 6)).toNatClampNeg a1) 11 (((sD D 10 ((D 9 6)).toNatClampNeg a1) 9 6)).toNatClampNeg a2) 12 (((sD (sD D 10 ((D 9 6)).toNatClampNeg a1) 11 (((sD D 10 ((D 9 6)).toNatClampNeg a1) 9 6)).toNatClampNeg a2) 9 6)).toNatClampNeg a3) 9 6)).toNatClampNeg (-1 : Int32)) 9 6)).toNatClampNeg (-1 : Int32)) 15 (((sD (sD (sD (sD (sD D 10 ((D 9 6)).toNatClampNeg a1) 11 (((sD D 10 ((D 9 6)).toNatClampNeg a1) 9 6)).toNatClampNeg a2) 12 (((sD (sD D 10 ((D 9 6)).toNatClampNeg a1) 11 (((sD D 10 ((D 9 6)).toNatClampNeg a1) 9 6)).toNatClampNeg a2) 9 6)).toNatClampNeg a3) 13 (((sD (sD (sD D 10 ((D 9 6)).toNatClampNeg a1) 11 (((sD D 10 ((D 9 6)).toNatClampNeg a1) 9 6)).toNatClampNeg a2) 12 (((sD (sD D 10 ((D 9 6)).toNatClampNeg a1) 11 (((sD D 10 ((D 9 6)).toNatClampNeg a1) 9 6)).toNatClampNeg a2) 9 6)).toNatClampNeg a3) 9 6)).toNatClampNeg (-1 : Int32)) 14 (((sD (sD (sD (sD D 10 ((D 9 6)).toNatClampNeg a1) 11 (((sD D 10 ((D 9 6)).toNatClampNeg a1) 9 6)).toNatClampNeg a2) 12 (((sD (sD D 10 ((D 9 6)).toNatClampNeg a1) 11 (((sD D 10 ((D 9 6)).toNatClampNeg a1) 9 6)).toNatClampNeg a2) 9 6)).toNatClampNeg a3) 13 (((sD (sD (sD D 10 ((D 9 6)).toNatClampNeg a1) 11 (((sD D 10 ((D 9 6)).toNatClampNeg a1) 9 6)).toNatClampNeg a2) 12 (((sD (sD D 10 ((D 9 6)).toNatClampNeg a1) 11 (((sD D 10 ((D 9 6)).toNatClampNeg a1) 9 6)).toNatClampNeg a2) 9 6)).toNatClampNeg a3) 9 6)).toNatClampNeg (-1 : Int32)) 9 6)).toNatClampNeg (-1 : Int32)) 9 6)).toNatClampNeg (-1 : Int32)) 9 6 (((sD (sD (sD (sD (sD (sD D 10 ((D 9 6)).toNatClampNeg a1) 11 (((sD D 10 ((D 9 6)).toNatClampNeg a1) 9 6)).toNatClampNeg a2) 12 (((sD (sD D 10 ((D 9 6)).toNatClampNeg a1) 11 (((sD D 10 ((D 9 6)).toNatClampNeg a1) 9 6)).toNatClampNeg a2) 9 6)).toNatClampNeg a3) 13 (((sD (sD (sD D 10 ((D 9 6)).toNatClampNeg a1) 11 (((sD D 10 ((D 9 6)).toNatClampNeg a1) 9 6)).toNatClampNeg a2) 12 (((sD (sD D 10 ((D 9 6)).toNatClampNeg a1) 11 (((sD D 10 ((D 9 6)).toNatClampNeg a1) 9 6)).toNatClampNeg a2) 9 6)).toNatClampNeg a3) 9 6)).toNatClampNeg (-1 : Int32)) 14 (((sD (sD (sD (sD D 10 ((D 9 6)).toNatClampNeg a1) 11 (((sD D 10 ((D 9 6)).toNatClampNeg a1) 9 6)).toNatClampNeg a2) 12 (((sD (sD D 10 ((D 9 6)).toNatClampNeg a1) 11 (((sD D 10 ((D 9 6)).toNatClampNeg a1) 9 6)).toNatClampNeg a2) 9 6)).toNatClampNeg a3) 13 (((sD (sD (sD D 10 ((D 9 6)).toNatClampNeg a1) 11 (((sD D 10 ((D 9 6)).toNatClampNeg a1) 9 6)).toNatClampNeg a2) 12 (((sD (sD D 10 ((D 9 6)).toNatClampNeg a1) 11 (((sD D 10 ((D 9 6)).toNatClampNeg a1) 9 6)).toNatClampNeg a2) 9 6)).toNatClampNeg a3) 9 6)).toNatClampNeg (-1 : Int32)) 9 6)).toNatClampNeg (-1 : Int32)) 15 (((sD (sD (sD (sD (sD D 10 ((D 9 6)).toNatClampNeg a1) 11 (((sD D 10 ((D 9 6)).toNatClampNeg a1) 9 6)).toNatClampNeg a2) 12 (((sD (sD D 10 ((D 9 6)).toNatClampNeg a1) 11 (((sD D 10 ((D 9 6)).toNatClampNeg a1) 9 6)).toNatClampNeg a2) 9 6)).toNatClampNeg a3) 13 (((sD (sD (sD D 10 ((D 9 6)).toNatClampNeg a1) 11 (((sD D 10 ((D 9 6)).toNatClampNeg a1) 9 6)).toNatClampNeg a2) 12 (((sD (sD D 10 ((D 9 6)).toNatClampNeg a1) 11 (((sD D 10 ((D 9 6)).toNatClampNeg a1) 9 6)).toNatClampNeg a2) 9 6)).toNatClampNeg a3) 9 6)).toNatClampNeg (-1 : Int32)) 14 (((sD (sD (sD (sD D 10 ((D 9 6)).toNatClampNeg a1) 11 (((sD D 10 ((D 9 6)).toNatClampNeg a1) 9 6)).toNatClampNeg a2) 12 (((sD (sD D 10 ((D 9 6)).toNatClampNeg a1) 11 (((sD D 10 ((D 9 6)).toNatClampNeg a1) 9 6)).toNatClampNeg a2) 9 6)).toNatClampNeg a3) 13 (((sD (sD (sD D 10 ((D 9 6)).toNatClampNeg a1) 11 (((sD D 10 ((D 9 6)).toNatClampNeg a1) 9 6)).toNatClampNeg a2) 12 (((sD (sD D 10 ((D 9 6)).toNatClampNeg a1) 11 (((sD D 10 ((D 9 6)).toNatClampNeg a1) 9 6)).toNatClampNeg a2) 9 6)).toNatClampNeg a3) 9 6)).toNatClampNeg (-1 : Int32)) 9 6)).toNatClampNeg (-1 : Int32)) 9 6)).toNatClampNeg (-1 : Int32)) 9 6) + (nI 1))), E)) rfl ?_
    cases h
    exact ev_ret hq rfl rfl ⟨rfl, rfl, rfl⟩
  · cases h
    exact ev_ret hq rfl rfl ⟨rfl, rfl, rfl⟩
def b_Reader_readPerson_24 (F : Nat) (D : mx_D) : Option (mx_D) := (Option.bind (g_Reader_takeWord F 1012 D) (fun r1 => (Option.bind (g_Reader_takeWord F 1013 r1) (fun r2 => (Option.bind (g_Reader_takeNumber F (nI 100) (nI 220) r2) (fun r3 => (Option.bind (g_Reader_takeWord F 1014 r3.2) (fun r4 => (Option.bind (g_Reader_takeNumber F (nI 0) (nI 9) r4) (fun r5 => (Option.bind (g_Reader_takeWord F 1015 r5.2) (fun r6 => (Option.bind (g_Reader_takeNumber F (nI 0) (nI 9) r6) (fun r7 => (if (r7.2 3 1) = 0 then (Option.bind (g_People_add_9 r3.1 r5.1 r7.1 r7.2) (fun r8 => (some r8))) else (some r7.2))))))))))))))))
set_option maxRecDepth 100000 in
set_option maxHeartbeats 4000000 in
theorem tb_Reader_readPerson_24 (X : ev_X) (F : Nat) (d : Nat) (hd : 11 ≤ d + 1) (E : mx_E)  (D : mx_D) (v : mx_D) (h : b_Reader_readPerson_24 F D = some v) : ev X (d + 1) 70 (24, [some (.ref 3), none, none, none], [], D, E) (qR none v E) := by
  have hq : kq_m 70 = some kq_q70 := rfl
  unfold b_Reader_readPerson_24 at h
  refine gv_n hq 2 (S' := (27, [some (.ref 3), none, none, none], [.ref 1012, .ref 3], D, E)) rfl ?_
  obtain ⟨r1, h1, h⟩ := Option.bind_eq_some_iff.mp h
  refine gv_d hq rfl rfl rfl rfl rfl (gv_dd (by omega) (t_Reader_takeWord X F (d - 1) (by omega) E _ _ _ h1)) (S' := (30, [some (.ref 3), none, none, none], [], r1, E)) rfl ?_
  refine gv_n hq 2 (S' := (33, [some (.ref 3), none, none, none], [.ref 1013, .ref 3], r1, E)) rfl ?_
  obtain ⟨r2, h1, h⟩ := Option.bind_eq_some_iff.mp h
  refine gv_d hq rfl rfl rfl rfl rfl (gv_dd (by omega) (t_Reader_takeWord X F (d - 1) (by omega) E _ _ _ h1)) (S' := (36, [some (.ref 3), none, none, none], [], r2, E)) rfl ?_
  refine gv_n hq 3 (S' := (42, [some (.ref 3), none, none, none], [.int (nI 220), .int (nI 100), .ref 3], r2, E)) rfl ?_
  obtain ⟨r3, h1, h⟩ := Option.bind_eq_some_iff.mp h
  refine gv_d hq rfl rfl rfl rfl rfl (gv_dd (by omega) (t_Reader_takeNumber X F (d - 1) (by omega) E _ _ _ _ h1)) (S' := (45, [some (.ref 3), none, none, none], [.int r3.1], r3.2, E)) rfl ?_
  refine gv_n hq 3 (S' := (49, [some (.ref 3), some (.int r3.1), none, none], [.ref 1014, .ref 3], r3.2, E)) rfl ?_
  obtain ⟨r4, h1, h⟩ := Option.bind_eq_some_iff.mp h
  refine gv_d hq rfl rfl rfl rfl rfl (gv_dd (by omega) (t_Reader_takeWord X F (d - 1) (by omega) E _ _ _ h1)) (S' := (52, [some (.ref 3), some (.int r3.1), none, none], [], r4, E)) rfl ?_
  refine gv_n hq 3 (S' := (56, [some (.ref 3), some (.int r3.1), none, none], [.int (nI 9), .int (nI 0), .ref 3], r4, E)) rfl ?_
  obtain ⟨r5, h1, h⟩ := Option.bind_eq_some_iff.mp h
  refine gv_d hq rfl rfl rfl rfl rfl (gv_dd (by omega) (t_Reader_takeNumber X F (d - 1) (by omega) E _ _ _ _ h1)) (S' := (59, [some (.ref 3), some (.int r3.1), none, none], [.int r5.1], r5.2, E)) rfl ?_
  refine gv_n hq 3 (S' := (63, [some (.ref 3), some (.int r3.1), some (.int r5.1), none], [.ref 1015, .ref 3], r5.2, E)) rfl ?_
  obtain ⟨r6, h1, h⟩ := Option.bind_eq_some_iff.mp h
  refine gv_d hq rfl rfl rfl rfl rfl (gv_dd (by omega) (t_Reader_takeWord X F (d - 1) (by omega) E _ _ _ h1)) (S' := (66, [some (.ref 3), some (.int r3.1), some (.int r5.1), none], [], r6, E)) rfl ?_
  refine gv_n hq 3 (S' := (70, [some (.ref 3), some (.int r3.1), some (.int r5.1), none], [.int (nI 9), .int (nI 0), .ref 3], r6, E)) rfl ?_
  obtain ⟨r7, h1, h⟩ := Option.bind_eq_some_iff.mp h
  refine gv_d hq rfl rfl rfl rfl rfl (gv_dd (by omega) (t_Reader_takeNumber X F (d - 1) (by omega) E _ _ _ _ h1)) (S' := (73, [some (.ref 3), some (.int r3.1), some (.int r5.1), none], [.int r7.1], r7.2, E)) rfl ?_
  refine gv_n hq 3 (S' := (78, [some (.ref 3), some (.int r3.1), some (.int r5.1), some (.int r7.1)], [.int (r7.2 3 1)], r7.2, E)) rfl ?_
  refine gv_b hq rfl h 81 94 rfl rfl rfl (fun h => ?_) (fun h => ?_)
  · refine gv_n hq 6 (S' := (91, [some (.ref 3), some (.int r3.1), some (.int r5.1), some (.int r7.1)], [.int r7.1, .int r5.1, .int r3.1, .ref 9], r7.2, E)) rfl ?_
    obtain ⟨r8, h1, h⟩ := Option.bind_eq_some_iff.mp h
    refine gv_d hq rfl rfl rfl rfl rfl ((t_People_add_9 X d E _ _ _ _ _ h1)) (S' := (94, [some (.ref 3), some (.int r3.1), some (.int r5.1), some (.int r7.1)], [], r8, E)) rfl ?_
    cases h
    exact ev_ret hq rfl rfl ⟨rfl, rfl, rfl⟩
  · cases h
    exact ev_ret hq rfl rfl ⟨rfl, rfl, rfl⟩
def g_Reader_readPerson (F : Nat) (D : mx_D) : Option (mx_D) := (if (D 9 6) < (nI 8) then (b_Reader_readPerson_24 F D) else (b_Reader_readPerson_24 F (g_Reader_refuse (nI 3) (D 3 6) D)))
set_option maxRecDepth 100000 in
set_option maxHeartbeats 4000000 in
theorem t_Reader_readPerson (X : ev_X) (F : Nat) (d : Nat) (hd : 11 ≤ d + 1) (E : mx_E) (D : mx_D) (v : mx_D) (h : g_Reader_readPerson F D = some v) : ev X (d + 1) 70 (0, [some (.ref 3), none, none, none], [], D, E) (qR none v E) := by
  have hq : kq_m 70 = some kq_q70 := rfl
  unfold g_Reader_readPerson at h
  refine gv_n hq 5 (S' := (12, [some (.ref 3), none, none, none], [.int (nI 8), .int (D 9 6)], D, E)) rfl ?_
  refine gv_b hq rfl h 24 15 rfl rfl rfl (fun h => ?_) (fun h => ?_)
  · exact gv_w (tb_Reader_readPerson_24 X F d hd E _ _ h) (And.intro rfl trivial)
  · refine gv_n hq 4 (S' := (21, [some (.ref 3), none, none, none], [.int (D 3 6), .int (nI 3), .ref 3], D, E)) rfl ?_
    refine gv_d hq rfl rfl rfl rfl rfl ((t_Reader_refuse X d E _ _ _ _ rfl)) (S' := (24, [some (.ref 3), none, none, none], [], (g_Reader_refuse (nI 3) (D 3 6) D), E)) rfl ?_
    exact gv_w (tb_Reader_readPerson_24 X F d hd E _ _ h) (And.intro rfl trivial)
def g_Church_hasPlace_4 (D : mx_D) (a1 : Int32) (a2 : Int32) : Int32 := (if a1 < 0 then (nI 0) else (if (D 4 0) ≤ a1 then (nI 0) else (if a2 < 0 then (nI 0) else (if (D 4 1) ≤ a2 then (nI 0) else (nI 1)))))
set_option maxRecDepth 100000 in
set_option maxHeartbeats 4000000 in
theorem t_Church_hasPlace_4 (X : ev_X) (d : Nat) (D : mx_D) (E : mx_E) (a1 : Int32) (a2 : Int32) (v : Int32) (h : g_Church_hasPlace_4 D a1 a2 = v) : ev X d 10 (0, [some (.ref 4), some (.int a1), some (.int a2)], [], D, E) (qR (some (.int v)) D E) := by
  have hq : kq_m 10 = some kq_q10 := rfl
  unfold g_Church_hasPlace_4 at h
  refine gv_n hq 1 (S' := (1, [some (.ref 4), some (.int a1), some (.int a2)], [.int a1], D, E)) rfl ?_
  refine gv_b hq rfl h 28 4 rfl rfl rfl (fun h => ?_) (fun h => ?_)
  · refine gv_n hq 1 (S' := (29, [some (.ref 4), some (.int a1), some (.int a2)], [.int (nI 0)], D, E)) rfl ?_
    subst h
    exact ev_ret hq rfl rfl ⟨rfl, rfl, rfl⟩
  · refine gv_n hq 3 (S' := (9, [some (.ref 4), some (.int a1), some (.int a2)], [.int (D 4 0), .int a1], D, E)) rfl ?_
    refine gv_b hq rfl h 28 12 rfl rfl rfl (fun h => ?_) (fun h => ?_)
    · refine gv_n hq 1 (S' := (29, [some (.ref 4), some (.int a1), some (.int a2)], [.int (nI 0)], D, E)) rfl ?_
      subst h
      exact ev_ret hq rfl rfl ⟨rfl, rfl, rfl⟩
    · refine gv_n hq 1 (S' := (13, [some (.ref 4), some (.int a1), some (.int a2)], [.int a2], D, E)) rfl ?_
      refine gv_b hq rfl h 28 16 rfl rfl rfl (fun h => ?_) (fun h => ?_)
      · refine gv_n hq 1 (S' := (29, [some (.ref 4), some (.int a1), some (.int a2)], [.int (nI 0)], D, E)) rfl ?_
        subst h
        exact ev_ret hq rfl rfl ⟨rfl, rfl, rfl⟩
      · refine gv_n hq 3 (S' := (21, [some (.ref 4), some (.int a1), some (.int a2)], [.int (D 4 1), .int a2], D, E)) rfl ?_
        refine gv_b hq rfl h 28 24 rfl rfl rfl (fun h => ?_) (fun h => ?_)
        · refine gv_n hq 1 (S' := (29, [some (.ref 4), some (.int a1), some (.int a2)], [.int (nI 0)], D, E)) rfl ?_
          subst h
          exact ev_ret hq rfl rfl ⟨rfl, rfl, rfl⟩
        · refine gv_n hq 2 (S' := (29, [some (.ref 4), some (.int a1), some (.int a2)], [.int (nI 1)], D, E)) rfl ?_
          subst h
          exact ev_ret hq rfl rfl ⟨rfl, rfl, rfl⟩
theorem z_Church_hasPlace_4 (D : mx_D) (a1 : Int32) (a2 : Int32) : g_Church_hasPlace_4 D a1 a2 = 0 ∨ g_Church_hasPlace_4 D a1 a2 = 1 := by
  unfold g_Church_hasPlace_4
  (repeat' split) <;> first | exact Or.inl rfl | exact Or.inr rfl
def g_Church_dig_4 (a1 : Int32) (a2 : Int32) (a3 : Int32) (D : mx_D) : Option (mx_D) := (if (g_Church_hasPlace_4 D a1 a2) = 0 then (some D) else (rk 20 ((a1 * (nI 5)) + a2) (some (sD D 8 (((a1 * (nI 5)) + a2)).toNatClampNeg a3))))
set_option maxRecDepth 100000 in
set_option maxHeartbeats 4000000 in
theorem t_Church_dig_4 (X : ev_X) (d : Nat) (hd : 1 ≤ d + 1) (E : mx_E) (a1 : Int32) (a2 : Int32) (a3 : Int32) (D : mx_D) (v : mx_D) (h : g_Church_dig_4 a1 a2 a3 D = some v) : ev X (d + 1) 9 (0, [some (.ref 4), some (.int a1), some (.int a2), some (.int a3)], [], D, E) (qR none v E) := by
  have hq : kq_m 9 = some kq_q9 := rfl
  unfold g_Church_dig_4 at h
  refine gv_n hq 3 (S' := (3, [some (.ref 4), some (.int a1), some (.int a2), some (.int a3)], [.int a2, .int a1, .ref 4], D, E)) rfl ?_
  refine gv_d hq rfl rfl rfl rfl rfl ((t_Church_hasPlace_4 X d D E _ _ _ rfl)) (S' := (6, [some (.ref 4), some (.int a1), some (.int a2), some (.int a3)], [.int (g_Church_hasPlace_4 D a1 a2)], D, E)) rfl ?_
  refine gv_b hq rfl h 20 9 rfl rfl rfl (fun h => ?_) (fun h => ?_)
  · cases h
    exact ev_ret hq rfl rfl ⟨rfl, rfl, rfl⟩
  · refine gv_n hq 8 (S' := (19, [some (.ref 4), some (.int a1), some (.int a2), some (.int a3)], [.int a3, .int ((a1 * (nI 5)) + a2), .ref 8], D, E)) rfl ?_
    refine gv_is hq rfl rfl h 20 rfl (fun h => ?_)
    cases h
    exact ev_ret hq rfl rfl ⟨rfl, rfl, rfl⟩
def g_Reader_readTrench (F : Nat) (D : mx_D) : Option (mx_D) := (Option.bind (g_Reader_takeWord F 1011 D) (fun r1 => (Option.bind (g_Reader_takeNumber F (nI 0) ((r1 4 0) - (nI 1)) r1) (fun r2 => (Option.bind (g_Reader_takeNumber F (nI 0) ((r2.2 4 1) - (nI 1)) r2.2) (fun r3 => (Option.bind (g_Reader_takeNumber F (nI 1) (nI 60) r3.2) (fun r4 => (if (r4.2 3 1) = 0 then (Option.bind (g_Church_dig_4 r2.1 r3.1 r4.1 r4.2) (fun r5 => (some r5))) else (some r4.2))))))))))
set_option maxRecDepth 100000 in
set_option maxHeartbeats 4000000 in
theorem t_Reader_readTrench (X : ev_X) (F : Nat) (d : Nat) (hd : 11 ≤ d + 1) (E : mx_E) (D : mx_D) (v : mx_D) (h : g_Reader_readTrench F D = some v) : ev X (d + 1) 69 (0, [some (.ref 3), none, none, none], [], D, E) (qR none v E) := by
  have hq : kq_m 69 = some kq_q69 := rfl
  unfold g_Reader_readTrench at h
  refine gv_n hq 2 (S' := (3, [some (.ref 3), none, none, none], [.ref 1011, .ref 3], D, E)) rfl ?_
  obtain ⟨r1, h1, h⟩ := Option.bind_eq_some_iff.mp h
  refine gv_d hq rfl rfl rfl rfl rfl (gv_dd (by omega) (t_Reader_takeWord X F (d - 1) (by omega) E _ _ _ h1)) (S' := (6, [some (.ref 3), none, none, none], [], r1, E)) rfl ?_
  refine gv_n hq 7 (S' := (17, [some (.ref 3), none, none, none], [.int ((r1 4 0) - (nI 1)), .int (nI 0), .ref 3], r1, E)) rfl ?_
  obtain ⟨r2, h1, h⟩ := Option.bind_eq_some_iff.mp h
  refine gv_d hq rfl rfl rfl rfl rfl (gv_dd (by omega) (t_Reader_takeNumber X F (d - 1) (by omega) E _ _ _ _ h1)) (S' := (20, [some (.ref 3), none, none, none], [.int r2.1], r2.2, E)) rfl ?_
  refine gv_n hq 8 (S' := (32, [some (.ref 3), some (.int r2.1), none, none], [.int ((r2.2 4 1) - (nI 1)), .int (nI 0), .ref 3], r2.2, E)) rfl ?_
  obtain ⟨r3, h1, h⟩ := Option.bind_eq_some_iff.mp h
  refine gv_d hq rfl rfl rfl rfl rfl (gv_dd (by omega) (t_Reader_takeNumber X F (d - 1) (by omega) E _ _ _ _ h1)) (S' := (35, [some (.ref 3), some (.int r2.1), none, none], [.int r3.1], r3.2, E)) rfl ?_
  refine gv_n hq 4 (S' := (40, [some (.ref 3), some (.int r2.1), some (.int r3.1), none], [.int (nI 60), .int (nI 1), .ref 3], r3.2, E)) rfl ?_
  obtain ⟨r4, h1, h⟩ := Option.bind_eq_some_iff.mp h
  refine gv_d hq rfl rfl rfl rfl rfl (gv_dd (by omega) (t_Reader_takeNumber X F (d - 1) (by omega) E _ _ _ _ h1)) (S' := (43, [some (.ref 3), some (.int r2.1), some (.int r3.1), none], [.int r4.1], r4.2, E)) rfl ?_
  refine gv_n hq 3 (S' := (48, [some (.ref 3), some (.int r2.1), some (.int r3.1), some (.int r4.1)], [.int (r4.2 3 1)], r4.2, E)) rfl ?_
  refine gv_b hq rfl h 51 61 rfl rfl rfl (fun h => ?_) (fun h => ?_)
  · refine gv_n hq 5 (S' := (58, [some (.ref 3), some (.int r2.1), some (.int r3.1), some (.int r4.1)], [.int r4.1, .int r3.1, .int r2.1, .ref 4], r4.2, E)) rfl ?_
    obtain ⟨r5, h1, h⟩ := Option.bind_eq_some_iff.mp h
    refine gv_d hq rfl rfl rfl rfl rfl (gv_dd (by omega) (t_Church_dig_4 X (d - 1) (by omega) E _ _ _ _ _ h1)) (S' := (61, [some (.ref 3), some (.int r2.1), some (.int r3.1), some (.int r4.1)], [], r5, E)) rfl ?_
    cases h
    exact ev_ret hq rfl rfl ⟨rfl, rfl, rfl⟩
  · cases h
    exact ev_ret hq rfl rfl ⟨rfl, rfl, rfl⟩
def b_Reader_readPew_40 (F : Nat) (l1 : Int32) (l2 : Int32) (s1 : Nat) (D : mx_D) : Option (mx_D) := (Option.bind (g_Reader_takeWord F s1 D) (fun r4 => (Option.bind (g_Reader_takeNumber F (nI 0) (nI 40) r4) (fun r5 => (Option.bind (g_Reader_takeWord F 1010 r5.2) (fun r6 => (Option.bind (g_Reader_takeNumber F (nI 0) (nI 9) r6) (fun r7 => (if (r7.2 3 1) = 0 then (if l2 = 0 then (rk 4 l1 (rk 4 l1 (some (sD (sD r7.2 5 (l1).toNatClampNeg r5.1) 6 (l1).toNatClampNeg r7.1)))) else (rk 4 l1 (rk 4 l1 (some (sD (sD r7.2 5 (l1).toNatClampNeg (-r5.1)) 6 (l1).toNatClampNeg r7.1))))) else (some r7.2))))))))))
set_option maxRecDepth 100000 in
set_option maxHeartbeats 4000000 in
theorem tb_Reader_readPew_40 (X : ev_X) (F : Nat) (d : Nat) (hd : 11 ≤ d + 1) (E : mx_E)  (l1 : Int32) (l2 : Int32) (s1 : Nat) (D : mx_D) (v : mx_D) (h : b_Reader_readPew_40 F l1 l2 s1 D = some v) : ev X (d + 1) 68 (40, [some (.ref 3), some (.int l1), some (.int l2), none, none], [.ref s1, .ref 3], D, E) (qR none v E) := by
  have hq : kq_m 68 = some kq_q68 := rfl
  unfold b_Reader_readPew_40 at h
  obtain ⟨r4, h1, h⟩ := Option.bind_eq_some_iff.mp h
  refine gv_d hq rfl rfl rfl rfl rfl (gv_dd (by omega) (t_Reader_takeWord X F (d - 1) (by omega) E _ _ _ h1)) (S' := (43, [some (.ref 3), some (.int l1), some (.int l2), none, none], [], r4, E)) rfl ?_
  refine gv_n hq 3 (S' := (47, [some (.ref 3), some (.int l1), some (.int l2), none, none], [.int (nI 40), .int (nI 0), .ref 3], r4, E)) rfl ?_
  obtain ⟨r5, h1, h⟩ := Option.bind_eq_some_iff.mp h
  refine gv_d hq rfl rfl rfl rfl rfl (gv_dd (by omega) (t_Reader_takeNumber X F (d - 1) (by omega) E _ _ _ _ h1)) (S' := (50, [some (.ref 3), some (.int l1), some (.int l2), none, none], [.int r5.1], r5.2, E)) rfl ?_
  refine gv_n hq 3 (S' := (54, [some (.ref 3), some (.int l1), some (.int l2), some (.int r5.1), none], [.ref 1010, .ref 3], r5.2, E)) rfl ?_
  obtain ⟨r6, h1, h⟩ := Option.bind_eq_some_iff.mp h
  refine gv_d hq rfl rfl rfl rfl rfl (gv_dd (by omega) (t_Reader_takeWord X F (d - 1) (by omega) E _ _ _ h1)) (S' := (57, [some (.ref 3), some (.int l1), some (.int l2), some (.int r5.1), none], [], r6, E)) rfl ?_
  refine gv_n hq 3 (S' := (61, [some (.ref 3), some (.int l1), some (.int l2), some (.int r5.1), none], [.int (nI 9), .int (nI 0), .ref 3], r6, E)) rfl ?_
  obtain ⟨r7, h1, h⟩ := Option.bind_eq_some_iff.mp h
  refine gv_d hq rfl rfl rfl rfl rfl (gv_dd (by omega) (t_Reader_takeNumber X F (d - 1) (by omega) E _ _ _ _ h1)) (S' := (64, [some (.ref 3), some (.int l1), some (.int l2), some (.int r5.1), none], [.int r7.1], r7.2, E)) rfl ?_
  refine gv_n hq 3 (S' := (70, [some (.ref 3), some (.int l1), some (.int l2), some (.int r5.1), some (.int r7.1)], [.int (r7.2 3 1)], r7.2, E)) rfl ?_
  refine gv_b hq rfl h 73 103 rfl rfl rfl (fun h => ?_) (fun h => ?_)
  · refine gv_n hq 5 (S' := (82, [some (.ref 3), some (.int l1), some (.int l2), some (.int r5.1), some (.int r7.1)], [.int l2, .int l1, .ref 5], r7.2, E)) rfl ?_
    refine gv_b hq rfl h 90 85 rfl rfl rfl (fun h => ?_) (fun h => ?_)
    · refine gv_n hq 1 (S' := (91, [some (.ref 3), some (.int l1), some (.int l2), some (.int r5.1), some (.int r7.1)], [.int r5.1, .int l1, .ref 5], r7.2, E)) rfl ?_
      refine gv_is hq rfl rfl h 92 rfl (fun h => ?_)
      refine gv_n hq 5 (S' := (102, [some (.ref 3), some (.int l1), some (.int l2), some (.int r5.1), some (.int r7.1)], [.int r7.1, .int l1, .ref 6], (sD r7.2 5 (l1).toNatClampNeg r5.1), E)) rfl ?_
      refine gv_is hq rfl rfl h 103 rfl (fun h => ?_)
      cases h
      exact ev_ret hq rfl rfl ⟨rfl, rfl, rfl⟩
    · refine gv_n hq 3 (S' := (91, [some (.ref 3), some (.int l1), some (.int l2), some (.int r5.1), some (.int r7.1)], [.int (-r5.1), .int l1, .ref 5], r7.2, E)) rfl ?_
      refine gv_is hq rfl rfl h 92 rfl (fun h => ?_)
      refine gv_n hq 5 (S' := (102, [some (.ref 3), some (.int l1), some (.int l2), some (.int r5.1), some (.int r7.1)], [.int r7.1, .int l1, .ref 6], (sD r7.2 5 (l1).toNatClampNeg (-r5.1)), E)) rfl ?_
      refine gv_is hq rfl rfl h 103 rfl (fun h => ?_)
      cases h
      exact ev_ret hq rfl rfl ⟨rfl, rfl, rfl⟩
  · cases h
    exact ev_ret hq rfl rfl ⟨rfl, rfl, rfl⟩
def g_Reader_readPew (F : Nat) (D : mx_D) : Option (mx_D) := (Option.bind (g_Reader_takeWord F 1007 D) (fun r1 => (Option.bind (g_Reader_takeNumber F (nI 0) ((r1 4 0) - (nI 1)) r1) (fun r2 => (Option.bind (g_Reader_isWord F r2.2 1008) (fun r3 => (if r3 = 0 then (b_Reader_readPew_40 F r2.1 r3 1009 r2.2) else (b_Reader_readPew_40 F r2.1 r3 1008 r2.2))))))))
set_option maxRecDepth 100000 in
set_option maxHeartbeats 4000000 in
theorem t_Reader_readPew (X : ev_X) (F : Nat) (d : Nat) (hd : 11 ≤ d + 1) (E : mx_E) (D : mx_D) (v : mx_D) (h : g_Reader_readPew F D = some v) : ev X (d + 1) 68 (0, [some (.ref 3), none, none, none, none], [], D, E) (qR none v E) := by
  have hq : kq_m 68 = some kq_q68 := rfl
  unfold g_Reader_readPew at h
  refine gv_n hq 2 (S' := (3, [some (.ref 3), none, none, none, none], [.ref 1007, .ref 3], D, E)) rfl ?_
  obtain ⟨r1, h1, h⟩ := Option.bind_eq_some_iff.mp h
  refine gv_d hq rfl rfl rfl rfl rfl (gv_dd (by omega) (t_Reader_takeWord X F (d - 1) (by omega) E _ _ _ h1)) (S' := (6, [some (.ref 3), none, none, none, none], [], r1, E)) rfl ?_
  refine gv_n hq 7 (S' := (17, [some (.ref 3), none, none, none, none], [.int ((r1 4 0) - (nI 1)), .int (nI 0), .ref 3], r1, E)) rfl ?_
  obtain ⟨r2, h1, h⟩ := Option.bind_eq_some_iff.mp h
  refine gv_d hq rfl rfl rfl rfl rfl (gv_dd (by omega) (t_Reader_takeNumber X F (d - 1) (by omega) E _ _ _ _ h1)) (S' := (20, [some (.ref 3), none, none, none, none], [.int r2.1], r2.2, E)) rfl ?_
  refine gv_n hq 3 (S' := (24, [some (.ref 3), some (.int r2.1), none, none, none], [.ref 1008, .ref 3], r2.2, E)) rfl ?_
  obtain ⟨r3, h1, h⟩ := Option.bind_eq_some_iff.mp h
  refine gv_d hq rfl rfl rfl rfl rfl (gv_dd (by omega) (t_Reader_isWord X F (d - 1) (by omega) r2.2 E _ _ h1)) (S' := (27, [some (.ref 3), some (.int r2.1), none, none, none], [.int r3], r2.2, E)) rfl ?_
  refine gv_n hq 3 (S' := (30, [some (.ref 3), some (.int r2.1), some (.int r3), none, none], [.int r3, .ref 3], r2.2, E)) rfl ?_
  refine gv_b hq rfl h 38 33 rfl rfl rfl (fun h => ?_) (fun h => ?_)
  · refine gv_n hq 1 (S' := (40, [some (.ref 3), some (.int r2.1), some (.int r3), none, none], [.ref 1009, .ref 3], r2.2, E)) rfl ?_
    exact gv_w (tb_Reader_readPew_40 X F d hd E _ _ _ _ _ h) (And.intro rfl (And.intro rfl (And.intro rfl trivial)))
  · refine gv_n hq 2 (S' := (40, [some (.ref 3), some (.int r2.1), some (.int r3), none, none], [.ref 1008, .ref 3], r2.2, E)) rfl ?_
    exact gv_w (tb_Reader_readPew_40 X F d hd E _ _ _ _ _ h) (And.intro rfl (And.intro rfl (And.intro rfl trivial)))
def g_Reader_readHead (F : Nat) (D : mx_D) : Option (mx_D) := (Option.bind (g_Reader_takeWord F 1000 D) (fun r1 => (Option.bind (g_Reader_takeWord F 1001 r1) (fun r2 => (Option.bind (g_Reader_takeNumber F (nI 1) (nI 4) r2) (fun r3 => (Option.bind (g_Reader_takeWord F 1002 (sD r3.2 4 0 r3.1)) (fun r4 => (Option.bind (g_Reader_takeNumber F (nI 1) (nI 5) r4) (fun r5 => (Option.bind (g_Reader_takeWord F 1003 (sD r5.2 4 1 r5.1)) (fun r6 => (Option.bind (g_Reader_takeNumber F (nI 0) (nI 30) r6) (fun r7 => (Option.bind (g_Reader_takeWord F 1004 (sD r7.2 4 2 r7.1)) (fun r8 => (Option.bind (g_Reader_isWord F r8 1005) (fun r9 => (zk r9 (if ((sD r8 4 3 r9) 4 3) = 0 then (Option.bind (g_Reader_takeWord F 1006 (sD r8 4 3 r9)) (fun r10 => (some r10))) else (Option.bind (g_Reader_takeWord F 1005 (sD r8 4 3 r9)) (fun r11 => (some r11)))))))))))))))))))))))
set_option maxRecDepth 100000 in
set_option maxHeartbeats 4000000 in
theorem t_Reader_readHead (X : ev_X) (F : Nat) (d : Nat) (hd : 11 ≤ d + 1) (E : mx_E) (D : mx_D) (v : mx_D) (h : g_Reader_readHead F D = some v) : ev X (d + 1) 65 (0, [some (.ref 3)], [], D, E) (qR none v E) := by
  have hq : kq_m 65 = some kq_q65 := rfl
  unfold g_Reader_readHead at h
  refine gv_n hq 2 (S' := (3, [some (.ref 3)], [.ref 1000, .ref 3], D, E)) rfl ?_
  obtain ⟨r1, h1, h⟩ := Option.bind_eq_some_iff.mp h
  refine gv_d hq rfl rfl rfl rfl rfl (gv_dd (by omega) (t_Reader_takeWord X F (d - 1) (by omega) E _ _ _ h1)) (S' := (6, [some (.ref 3)], [], r1, E)) rfl ?_
  refine gv_n hq 2 (S' := (9, [some (.ref 3)], [.ref 1001, .ref 3], r1, E)) rfl ?_
  obtain ⟨r2, h1, h⟩ := Option.bind_eq_some_iff.mp h
  refine gv_d hq rfl rfl rfl rfl rfl (gv_dd (by omega) (t_Reader_takeWord X F (d - 1) (by omega) E _ _ _ h1)) (S' := (12, [some (.ref 3)], [], r2, E)) rfl ?_
  refine gv_n hq 5 (S' := (19, [some (.ref 3)], [.int (nI 4), .int (nI 1), .ref 3, .ref 4], r2, E)) rfl ?_
  obtain ⟨r3, h1, h⟩ := Option.bind_eq_some_iff.mp h
  refine gv_d hq rfl rfl rfl rfl rfl (gv_dd (by omega) (t_Reader_takeNumber X F (d - 1) (by omega) E _ _ _ _ h1)) (S' := (22, [some (.ref 3)], [.int r3.1, .ref 4], r3.2, E)) rfl ?_
  refine gv_n hq 3 (S' := (28, [some (.ref 3)], [.ref 1002, .ref 3], (sD r3.2 4 0 r3.1), E)) rfl ?_
  obtain ⟨r4, h1, h⟩ := Option.bind_eq_some_iff.mp h
  refine gv_d hq rfl rfl rfl rfl rfl (gv_dd (by omega) (t_Reader_takeWord X F (d - 1) (by omega) E _ _ _ h1)) (S' := (31, [some (.ref 3)], [], r4, E)) rfl ?_
  refine gv_n hq 5 (S' := (38, [some (.ref 3)], [.int (nI 5), .int (nI 1), .ref 3, .ref 4], r4, E)) rfl ?_
  obtain ⟨r5, h1, h⟩ := Option.bind_eq_some_iff.mp h
  refine gv_d hq rfl rfl rfl rfl rfl (gv_dd (by omega) (t_Reader_takeNumber X F (d - 1) (by omega) E _ _ _ _ h1)) (S' := (41, [some (.ref 3)], [.int r5.1, .ref 4], r5.2, E)) rfl ?_
  refine gv_n hq 3 (S' := (47, [some (.ref 3)], [.ref 1003, .ref 3], (sD r5.2 4 1 r5.1), E)) rfl ?_
  obtain ⟨r6, h1, h⟩ := Option.bind_eq_some_iff.mp h
  refine gv_d hq rfl rfl rfl rfl rfl (gv_dd (by omega) (t_Reader_takeWord X F (d - 1) (by omega) E _ _ _ h1)) (S' := (50, [some (.ref 3)], [], r6, E)) rfl ?_
  refine gv_n hq 5 (S' := (58, [some (.ref 3)], [.int (nI 30), .int (nI 0), .ref 3, .ref 4], r6, E)) rfl ?_
  obtain ⟨r7, h1, h⟩ := Option.bind_eq_some_iff.mp h
  refine gv_d hq rfl rfl rfl rfl rfl (gv_dd (by omega) (t_Reader_takeNumber X F (d - 1) (by omega) E _ _ _ _ h1)) (S' := (61, [some (.ref 3)], [.int r7.1, .ref 4], r7.2, E)) rfl ?_
  refine gv_n hq 3 (S' := (67, [some (.ref 3)], [.ref 1004, .ref 3], (sD r7.2 4 2 r7.1), E)) rfl ?_
  obtain ⟨r8, h1, h⟩ := Option.bind_eq_some_iff.mp h
  refine gv_d hq rfl rfl rfl rfl rfl (gv_dd (by omega) (t_Reader_takeWord X F (d - 1) (by omega) E _ _ _ h1)) (S' := (70, [some (.ref 3)], [], r8, E)) rfl ?_
  refine gv_n hq 4 (S' := (77, [some (.ref 3)], [.ref 1005, .ref 3, .ref 4], r8, E)) rfl ?_
  obtain ⟨r9, h1, h⟩ := Option.bind_eq_some_iff.mp h
  refine gv_d hq rfl rfl rfl rfl rfl (gv_dd (by omega) (t_Reader_isWord X F (d - 1) (by omega) r8 E _ _ h1)) (S' := (80, [some (.ref 3)], [.int r9, .ref 4], r8, E)) rfl ?_
  refine gv_zp hq rfl h (S' := (83, [some (.ref 3)], [], (sD r8 4 3 r9), E)) rfl (fun h => ?_)
  refine gv_n hq 4 (S' := (91, [some (.ref 3)], [.int ((sD r8 4 3 r9) 4 3), .ref 3], (sD r8 4 3 r9), E)) rfl ?_
  refine gv_b hq rfl h 99 94 rfl rfl rfl (fun h => ?_) (fun h => ?_)
  · refine gv_n hq 1 (S' := (101, [some (.ref 3)], [.ref 1006, .ref 3], (sD r8 4 3 r9), E)) rfl ?_
    obtain ⟨r10, h1, h⟩ := Option.bind_eq_some_iff.mp h
    refine gv_d hq rfl rfl rfl rfl rfl (gv_dd (by omega) (t_Reader_takeWord X F (d - 1) (by omega) E _ _ _ h1)) (S' := (104, [some (.ref 3)], [], r10, E)) rfl ?_
    cases h
    exact ev_ret hq rfl rfl ⟨rfl, rfl, rfl⟩
  · refine gv_n hq 2 (S' := (101, [some (.ref 3)], [.ref 1005, .ref 3], (sD r8 4 3 r9), E)) rfl ?_
    obtain ⟨r11, h1, h⟩ := Option.bind_eq_some_iff.mp h
    refine gv_d hq rfl rfl rfl rfl rfl (gv_dd (by omega) (t_Reader_takeWord X F (d - 1) (by omega) E _ _ _ h1)) (S' := (104, [some (.ref 3)], [], r11, E)) rfl ?_
    cases h
    exact ev_ret hq rfl rfl ⟨rfl, rfl, rfl⟩
def b_Reader_readLine_21 (F : Nat) (s0 : Int32) (s1 : Int32) (D : mx_D) : Option (mx_D) := (if s0 = s1 then (Option.bind (g_Reader_isWord F D 1000) (fun r2 => (if r2 = 0 then (Option.bind (g_Reader_isWord F D 1007) (fun r3 => (if r3 = 0 then (Option.bind (g_Reader_isWord F D 1011) (fun r4 => (if r4 = 0 then (Option.bind (g_Reader_isWord F D 1012) (fun r5 => (if r5 = 0 then (Option.bind (g_Reader_isWord F D 1016) (fun r6 => (if r6 = 0 then (Option.bind (g_Reader_isWord F D 1017) (fun r7 => (if r7 = 0 then (Option.bind (g_Reader_isWord F D 1018) (fun r8 => (if r8 = 0 then (Option.bind (g_Reader_isWord F D 1019) (fun r9 => (if r9 = 0 then (Option.bind (g_Reader_isWord F D 1020) (fun r10 => (if r10 = 0 then (Option.bind (g_Reader_takeSign F (g_Reader_refuse (nI 1) (D 3 6) D)) (fun r11 => (some r11))) else (Option.bind (g_Reader_readStands F D) (fun r12 => (Option.bind (g_Reader_takeSign F r12) (fun r13 => (some r13)))))))) else (Option.bind (g_Reader_readBook F D) (fun r14 => (Option.bind (g_Reader_takeSign F r14) (fun r15 => (some r15)))))))) else (Option.bind (g_Reader_readWears F D) (fun r16 => (Option.bind (g_Reader_takeSign F r16) (fun r17 => (some r17)))))))) else (Option.bind (g_Reader_readHat F D) (fun r18 => (Option.bind (g_Reader_takeSign F r18) (fun r19 => (some r19)))))))) else (Option.bind (g_Reader_readSits F D) (fun r20 => (Option.bind (g_Reader_takeSign F r20) (fun r21 => (some r21)))))))) else (Option.bind (g_Reader_readPerson F D) (fun r22 => (Option.bind (g_Reader_takeSign F r22) (fun r23 => (some r23)))))))) else (Option.bind (g_Reader_readTrench F D) (fun r24 => (Option.bind (g_Reader_takeSign F r24) (fun r25 => (some r25)))))))) else (Option.bind (g_Reader_readPew F D) (fun r26 => (Option.bind (g_Reader_takeSign F r26) (fun r27 => (some r27)))))))) else (Option.bind (g_Reader_readHead F D) (fun r28 => (Option.bind (g_Reader_takeSign F r28) (fun r29 => (some r29)))))))) else (Option.bind (g_Reader_takeSign F (g_Reader_refuse (nI 1) (D 3 6) D)) (fun r30 => (some r30))))
set_option maxRecDepth 100000 in
set_option maxHeartbeats 4000000 in
theorem tb_Reader_readLine_21 (X : ev_X) (F : Nat) (d : Nat) (hd : 12 ≤ d + 1) (E : mx_E)  (s0 : Int32) (s1 : Int32) (D : mx_D) (v : mx_D) (h : b_Reader_readLine_21 F s0 s1 D = some v) : ev X (d + 1) 62 (21, [some (.ref 3)], [.int s1, .int s0], D, E) (qR none v E) := by
  have hq : kq_m 62 = some kq_q62 := rfl
  unfold b_Reader_readLine_21 at h
  refine gv_b hq rfl h 36 24 rfl rfl rfl (fun h => ?_) (fun h => ?_)
  · refine gv_n hq 2 (S' := (39, [some (.ref 3)], [.ref 1000, .ref 3], D, E)) rfl ?_
    obtain ⟨r2, h1, h⟩ := Option.bind_eq_some_iff.mp h
    refine gv_d hq rfl rfl rfl rfl rfl (gv_dd (by omega) (t_Reader_isWord X F (d - 1) (by omega) D E _ _ h1)) (S' := (42, [some (.ref 3)], [.int r2], D, E)) rfl ?_
    refine gv_b hq rfl h 52 45 rfl rfl rfl (fun h => ?_) (fun h => ?_)
    · refine gv_n hq 2 (S' := (55, [some (.ref 3)], [.ref 1007, .ref 3], D, E)) rfl ?_
      obtain ⟨r3, h1, h⟩ := Option.bind_eq_some_iff.mp h
      refine gv_d hq rfl rfl rfl rfl rfl (gv_dd (by omega) (t_Reader_isWord X F (d - 1) (by omega) D E _ _ h1)) (S' := (58, [some (.ref 3)], [.int r3], D, E)) rfl ?_
      refine gv_b hq rfl h 68 61 rfl rfl rfl (fun h => ?_) (fun h => ?_)
      · refine gv_n hq 2 (S' := (71, [some (.ref 3)], [.ref 1011, .ref 3], D, E)) rfl ?_
        obtain ⟨r4, h1, h⟩ := Option.bind_eq_some_iff.mp h
        refine gv_d hq rfl rfl rfl rfl rfl (gv_dd (by omega) (t_Reader_isWord X F (d - 1) (by omega) D E _ _ h1)) (S' := (74, [some (.ref 3)], [.int r4], D, E)) rfl ?_
        refine gv_b hq rfl h 84 77 rfl rfl rfl (fun h => ?_) (fun h => ?_)
        · refine gv_n hq 2 (S' := (87, [some (.ref 3)], [.ref 1012, .ref 3], D, E)) rfl ?_
          obtain ⟨r5, h1, h⟩ := Option.bind_eq_some_iff.mp h
          refine gv_d hq rfl rfl rfl rfl rfl (gv_dd (by omega) (t_Reader_isWord X F (d - 1) (by omega) D E _ _ h1)) (S' := (90, [some (.ref 3)], [.int r5], D, E)) rfl ?_
          refine gv_b hq rfl h 100 93 rfl rfl rfl (fun h => ?_) (fun h => ?_)
          · refine gv_n hq 2 (S' := (103, [some (.ref 3)], [.ref 1016, .ref 3], D, E)) rfl ?_
            obtain ⟨r6, h1, h⟩ := Option.bind_eq_some_iff.mp h
            refine gv_d hq rfl rfl rfl rfl rfl (gv_dd (by omega) (t_Reader_isWord X F (d - 1) (by omega) D E _ _ h1)) (S' := (106, [some (.ref 3)], [.int r6], D, E)) rfl ?_
            refine gv_b hq rfl h 116 109 rfl rfl rfl (fun h => ?_) (fun h => ?_)
            · refine gv_n hq 2 (S' := (119, [some (.ref 3)], [.ref 1017, .ref 3], D, E)) rfl ?_
              obtain ⟨r7, h1, h⟩ := Option.bind_eq_some_iff.mp h
              refine gv_d hq rfl rfl rfl rfl rfl (gv_dd (by omega) (t_Reader_isWord X F (d - 1) (by omega) D E _ _ h1)) (S' := (122, [some (.ref 3)], [.int r7], D, E)) rfl ?_
              refine gv_b hq rfl h 132 125 rfl rfl rfl (fun h => ?_) (fun h => ?_)
              · refine gv_n hq 2 (S' := (135, [some (.ref 3)], [.ref 1018, .ref 3], D, E)) rfl ?_
                obtain ⟨r8, h1, h⟩ := Option.bind_eq_some_iff.mp h
                refine gv_d hq rfl rfl rfl rfl rfl (gv_dd (by omega) (t_Reader_isWord X F (d - 1) (by omega) D E _ _ h1)) (S' := (138, [some (.ref 3)], [.int r8], D, E)) rfl ?_
                refine gv_b hq rfl h 148 141 rfl rfl rfl (fun h => ?_) (fun h => ?_)
                · refine gv_n hq 2 (S' := (151, [some (.ref 3)], [.ref 1019, .ref 3], D, E)) rfl ?_
                  obtain ⟨r9, h1, h⟩ := Option.bind_eq_some_iff.mp h
                  refine gv_d hq rfl rfl rfl rfl rfl (gv_dd (by omega) (t_Reader_isWord X F (d - 1) (by omega) D E _ _ h1)) (S' := (154, [some (.ref 3)], [.int r9], D, E)) rfl ?_
                  refine gv_b hq rfl h 164 157 rfl rfl rfl (fun h => ?_) (fun h => ?_)
                  · refine gv_n hq 2 (S' := (167, [some (.ref 3)], [.ref 1020, .ref 3], D, E)) rfl ?_
                    obtain ⟨r10, h1, h⟩ := Option.bind_eq_some_iff.mp h
                    refine gv_d hq rfl rfl rfl rfl rfl (gv_dd (by omega) (t_Reader_isWord X F (d - 1) (by omega) D E _ _ h1)) (S' := (170, [some (.ref 3)], [.int r10], D, E)) rfl ?_
                    refine gv_b hq rfl h 180 173 rfl rfl rfl (fun h => ?_) (fun h => ?_)
                    · refine gv_n hq 4 (S' := (186, [some (.ref 3)], [.int (D 3 6), .int (nI 1), .ref 3], D, E)) rfl ?_
                      refine gv_d hq rfl rfl rfl rfl rfl ((t_Reader_refuse X d E _ _ _ _ rfl)) (S' := (189, [some (.ref 3)], [], (g_Reader_refuse (nI 1) (D 3 6) D), E)) rfl ?_
                      refine gv_n hq 1 (S' := (190, [some (.ref 3)], [.ref 3], (g_Reader_refuse (nI 1) (D 3 6) D), E)) rfl ?_
                      obtain ⟨r11, h1, h⟩ := Option.bind_eq_some_iff.mp h
                      refine gv_d hq rfl rfl rfl rfl rfl (gv_dd (by omega) (t_Reader_takeSign X F (d - 1) (by omega) E _ _ h1)) (S' := (193, [some (.ref 3)], [], r11, E)) rfl ?_
                      cases h
                      exact ev_ret hq rfl rfl ⟨rfl, rfl, rfl⟩
                    · refine gv_n hq 1 (S' := (174, [some (.ref 3)], [.ref 3], D, E)) rfl ?_
                      obtain ⟨r12, h1, h⟩ := Option.bind_eq_some_iff.mp h
                      refine gv_d hq rfl rfl rfl rfl rfl (gv_dd (by omega) (t_Reader_readStands X F (d - 1) (by omega) E _ _ h1)) (S' := (177, [some (.ref 3)], [], r12, E)) rfl ?_
                      refine gv_n hq 2 (S' := (190, [some (.ref 3)], [.ref 3], r12, E)) rfl ?_
                      obtain ⟨r13, h1, h⟩ := Option.bind_eq_some_iff.mp h
                      refine gv_d hq rfl rfl rfl rfl rfl (gv_dd (by omega) (t_Reader_takeSign X F (d - 1) (by omega) E _ _ h1)) (S' := (193, [some (.ref 3)], [], r13, E)) rfl ?_
                      cases h
                      exact ev_ret hq rfl rfl ⟨rfl, rfl, rfl⟩
                  · refine gv_n hq 1 (S' := (158, [some (.ref 3)], [.ref 3], D, E)) rfl ?_
                    obtain ⟨r14, h1, h⟩ := Option.bind_eq_some_iff.mp h
                    refine gv_d hq rfl rfl rfl rfl rfl (gv_dd (by omega) (t_Reader_readBook X F (d - 1) (by omega) E _ _ h1)) (S' := (161, [some (.ref 3)], [], r14, E)) rfl ?_
                    refine gv_n hq 2 (S' := (190, [some (.ref 3)], [.ref 3], r14, E)) rfl ?_
                    obtain ⟨r15, h1, h⟩ := Option.bind_eq_some_iff.mp h
                    refine gv_d hq rfl rfl rfl rfl rfl (gv_dd (by omega) (t_Reader_takeSign X F (d - 1) (by omega) E _ _ h1)) (S' := (193, [some (.ref 3)], [], r15, E)) rfl ?_
                    cases h
                    exact ev_ret hq rfl rfl ⟨rfl, rfl, rfl⟩
                · refine gv_n hq 1 (S' := (142, [some (.ref 3)], [.ref 3], D, E)) rfl ?_
                  obtain ⟨r16, h1, h⟩ := Option.bind_eq_some_iff.mp h
                  refine gv_d hq rfl rfl rfl rfl rfl (gv_dd (by omega) (t_Reader_readWears X F (d - 1) (by omega) E _ _ h1)) (S' := (145, [some (.ref 3)], [], r16, E)) rfl ?_
                  refine gv_n hq 2 (S' := (190, [some (.ref 3)], [.ref 3], r16, E)) rfl ?_
                  obtain ⟨r17, h1, h⟩ := Option.bind_eq_some_iff.mp h
                  refine gv_d hq rfl rfl rfl rfl rfl (gv_dd (by omega) (t_Reader_takeSign X F (d - 1) (by omega) E _ _ h1)) (S' := (193, [some (.ref 3)], [], r17, E)) rfl ?_
                  cases h
                  exact ev_ret hq rfl rfl ⟨rfl, rfl, rfl⟩
              · refine gv_n hq 1 (S' := (126, [some (.ref 3)], [.ref 3], D, E)) rfl ?_
                obtain ⟨r18, h1, h⟩ := Option.bind_eq_some_iff.mp h
                refine gv_d hq rfl rfl rfl rfl rfl (gv_dd (by omega) (t_Reader_readHat X F (d - 1) (by omega) E _ _ h1)) (S' := (129, [some (.ref 3)], [], r18, E)) rfl ?_
                refine gv_n hq 2 (S' := (190, [some (.ref 3)], [.ref 3], r18, E)) rfl ?_
                obtain ⟨r19, h1, h⟩ := Option.bind_eq_some_iff.mp h
                refine gv_d hq rfl rfl rfl rfl rfl (gv_dd (by omega) (t_Reader_takeSign X F (d - 1) (by omega) E _ _ h1)) (S' := (193, [some (.ref 3)], [], r19, E)) rfl ?_
                cases h
                exact ev_ret hq rfl rfl ⟨rfl, rfl, rfl⟩
            · refine gv_n hq 1 (S' := (110, [some (.ref 3)], [.ref 3], D, E)) rfl ?_
              obtain ⟨r20, h1, h⟩ := Option.bind_eq_some_iff.mp h
              refine gv_d hq rfl rfl rfl rfl rfl (gv_dd (by omega) (t_Reader_readSits X F (d - 1) (by omega) E _ _ h1)) (S' := (113, [some (.ref 3)], [], r20, E)) rfl ?_
              refine gv_n hq 2 (S' := (190, [some (.ref 3)], [.ref 3], r20, E)) rfl ?_
              obtain ⟨r21, h1, h⟩ := Option.bind_eq_some_iff.mp h
              refine gv_d hq rfl rfl rfl rfl rfl (gv_dd (by omega) (t_Reader_takeSign X F (d - 1) (by omega) E _ _ h1)) (S' := (193, [some (.ref 3)], [], r21, E)) rfl ?_
              cases h
              exact ev_ret hq rfl rfl ⟨rfl, rfl, rfl⟩
          · refine gv_n hq 1 (S' := (94, [some (.ref 3)], [.ref 3], D, E)) rfl ?_
            obtain ⟨r22, h1, h⟩ := Option.bind_eq_some_iff.mp h
            refine gv_d hq rfl rfl rfl rfl rfl (gv_dd (by omega) (t_Reader_readPerson X F (d - 1) (by omega) E _ _ h1)) (S' := (97, [some (.ref 3)], [], r22, E)) rfl ?_
            refine gv_n hq 2 (S' := (190, [some (.ref 3)], [.ref 3], r22, E)) rfl ?_
            obtain ⟨r23, h1, h⟩ := Option.bind_eq_some_iff.mp h
            refine gv_d hq rfl rfl rfl rfl rfl (gv_dd (by omega) (t_Reader_takeSign X F (d - 1) (by omega) E _ _ h1)) (S' := (193, [some (.ref 3)], [], r23, E)) rfl ?_
            cases h
            exact ev_ret hq rfl rfl ⟨rfl, rfl, rfl⟩
        · refine gv_n hq 1 (S' := (78, [some (.ref 3)], [.ref 3], D, E)) rfl ?_
          obtain ⟨r24, h1, h⟩ := Option.bind_eq_some_iff.mp h
          refine gv_d hq rfl rfl rfl rfl rfl (gv_dd (by omega) (t_Reader_readTrench X F (d - 1) (by omega) E _ _ h1)) (S' := (81, [some (.ref 3)], [], r24, E)) rfl ?_
          refine gv_n hq 2 (S' := (190, [some (.ref 3)], [.ref 3], r24, E)) rfl ?_
          obtain ⟨r25, h1, h⟩ := Option.bind_eq_some_iff.mp h
          refine gv_d hq rfl rfl rfl rfl rfl (gv_dd (by omega) (t_Reader_takeSign X F (d - 1) (by omega) E _ _ h1)) (S' := (193, [some (.ref 3)], [], r25, E)) rfl ?_
          cases h
          exact ev_ret hq rfl rfl ⟨rfl, rfl, rfl⟩
      · refine gv_n hq 1 (S' := (62, [some (.ref 3)], [.ref 3], D, E)) rfl ?_
        obtain ⟨r26, h1, h⟩ := Option.bind_eq_some_iff.mp h
        refine gv_d hq rfl rfl rfl rfl rfl (gv_dd (by omega) (t_Reader_readPew X F (d - 1) (by omega) E _ _ h1)) (S' := (65, [some (.ref 3)], [], r26, E)) rfl ?_
        refine gv_n hq 2 (S' := (190, [some (.ref 3)], [.ref 3], r26, E)) rfl ?_
        obtain ⟨r27, h1, h⟩ := Option.bind_eq_some_iff.mp h
        refine gv_d hq rfl rfl rfl rfl rfl (gv_dd (by omega) (t_Reader_takeSign X F (d - 1) (by omega) E _ _ h1)) (S' := (193, [some (.ref 3)], [], r27, E)) rfl ?_
        cases h
        exact ev_ret hq rfl rfl ⟨rfl, rfl, rfl⟩
    · refine gv_n hq 1 (S' := (46, [some (.ref 3)], [.ref 3], D, E)) rfl ?_
      obtain ⟨r28, h1, h⟩ := Option.bind_eq_some_iff.mp h
      refine gv_d hq rfl rfl rfl rfl rfl (gv_dd (by omega) (t_Reader_readHead X F (d - 1) (by omega) E _ _ h1)) (S' := (49, [some (.ref 3)], [], r28, E)) rfl ?_
      refine gv_n hq 2 (S' := (190, [some (.ref 3)], [.ref 3], r28, E)) rfl ?_
      obtain ⟨r29, h1, h⟩ := Option.bind_eq_some_iff.mp h
      refine gv_d hq rfl rfl rfl rfl rfl (gv_dd (by omega) (t_Reader_takeSign X F (d - 1) (by omega) E _ _ h1)) (S' := (193, [some (.ref 3)], [], r29, E)) rfl ?_
      cases h
      exact ev_ret hq rfl rfl ⟨rfl, rfl, rfl⟩
  · refine gv_n hq 4 (S' := (30, [some (.ref 3)], [.int (D 3 6), .int (nI 1), .ref 3], D, E)) rfl ?_
    refine gv_d hq rfl rfl rfl rfl rfl ((t_Reader_refuse X d E _ _ _ _ rfl)) (S' := (33, [some (.ref 3)], [], (g_Reader_refuse (nI 1) (D 3 6) D), E)) rfl ?_
    refine gv_n hq 2 (S' := (190, [some (.ref 3)], [.ref 3], (g_Reader_refuse (nI 1) (D 3 6) D), E)) rfl ?_
    obtain ⟨r30, h1, h⟩ := Option.bind_eq_some_iff.mp h
    refine gv_d hq rfl rfl rfl rfl rfl (gv_dd (by omega) (t_Reader_takeSign X F (d - 1) (by omega) E _ _ h1)) (S' := (193, [some (.ref 3)], [], r30, E)) rfl ?_
    cases h
    exact ev_ret hq rfl rfl ⟨rfl, rfl, rfl⟩
def g_Reader_readLine (F : Nat) (D : mx_D) : Option (mx_D) := (Option.bind (g_Reader_isWord F D 1000) (fun r1 => (if (D 4 4) = 0 then (b_Reader_readLine_21 F r1 (nI 1) D) else (b_Reader_readLine_21 F r1 (nI 0) D))))
set_option maxRecDepth 100000 in
set_option maxHeartbeats 4000000 in
theorem t_Reader_readLine (X : ev_X) (F : Nat) (d : Nat) (hd : 12 ≤ d + 1) (E : mx_E) (D : mx_D) (v : mx_D) (h : g_Reader_readLine F D = some v) : ev X (d + 1) 62 (0, [some (.ref 3)], [], D, E) (qR none v E) := by
  have hq : kq_m 62 = some kq_q62 := rfl
  unfold g_Reader_readLine at h
  refine gv_n hq 2 (S' := (3, [some (.ref 3)], [.ref 1000, .ref 3], D, E)) rfl ?_
  obtain ⟨r1, h1, h⟩ := Option.bind_eq_some_iff.mp h
  refine gv_d hq rfl rfl rfl rfl rfl (gv_dd (by omega) (t_Reader_isWord X F (d - 1) (by omega) D E _ _ h1)) (S' := (6, [some (.ref 3)], [.int r1], D, E)) rfl ?_
  refine gv_n hq 3 (S' := (13, [some (.ref 3)], [.int (D 4 4), .int r1], D, E)) rfl ?_
  refine gv_b hq rfl h 16 20 rfl rfl rfl (fun h => ?_) (fun h => ?_)
  · refine gv_n hq 2 (S' := (21, [some (.ref 3)], [.int (nI 1), .int r1], D, E)) rfl ?_
    exact gv_w (tb_Reader_readLine_21 X F d hd E _ _ _ _ h) (And.intro rfl trivial)
  · refine gv_n hq 1 (S' := (21, [some (.ref 3)], [.int (nI 0), .int r1], D, E)) rfl ?_
    exact gv_w (tb_Reader_readLine_21 X F d hd E _ _ _ _ h) (And.intro rfl trivial)
