/-! ===== both readers in step: the lines behind the first ===== -/
section CN
variable {D D' D0 : mx_D} {w w' : W_} {F : Nat}
set_option maxRecDepth 100000 in
theorem df_all : ∀ a : Fin 9, ∀ b : Fin 9, ¬ a = b → df ([1000, 1007, 1011, 1012, 1016, 1017, 1018, 1019, 1020].getD a.val 0) ([1000, 1007, 1011, 1012, 1016, 1017, 1018, 1019, 1020].getD b.val 0) = true := by decide +kernel
theorem later_LO (hF : 2000 ≤ F) {t n : Nat} (h : S2 D D' t) (g : D' 116 12 = 0) (hD : DT D (D' 122)) (h7 : D' 122 7 = nI n) (h0 : 0 < n) (hn : n + 1 ≤ 1400) (hP : 0 < nP (D' 122)) : LO F D D' t n := by
  have eN : nN (D' 122) = n := by unfold nN; rw [h7, nI_clamp (by omega)]
  have hN : 0 < nN (D' 122) := by omega
  have d44 : ¬ D 4 4 = 0 := by
    rw [hD.1.1.2.2.2.2.1, h7]
    exact fun e => by have := (nI_z n (by omega)).mp e; omega
  have w7 : ¬ D' 122 7 = 0 := by
    rw [h7]
    exact fun e => by have := (nI_z n (by omega)).mp e; omega
  obtain ⟨x0, y0, j0, i0, k0, -⟩ := isW_ST hF h.1 (w := 1000) (by decide) (by decide)
  obtain ⟨x1, y1, j1, i1, k1, -⟩ := isW_ST hF h.1 (w := 1007) (by decide) (by decide)
  obtain ⟨x2, y2, j2, i2, k2, -⟩ := isW_ST hF h.1 (w := 1011) (by decide) (by decide)
  obtain ⟨x3, y3, j3, i3, k3, -⟩ := isW_ST hF h.1 (w := 1012) (by decide) (by decide)
  obtain ⟨x4, y4, j4, i4, k4, -⟩ := isW_ST hF h.1 (w := 1016) (by decide) (by decide)
  obtain ⟨x5, y5, j5, i5, k5, -⟩ := isW_ST hF h.1 (w := 1017) (by decide) (by decide)
  obtain ⟨x6, y6, j6, i6, k6, -⟩ := isW_ST hF h.1 (w := 1018) (by decide) (by decide)
  obtain ⟨x7, y7, j7, i7, k7, -⟩ := isW_ST hF h.1 (w := 1019) (by decide) (by decide)
  obtain ⟨x8, y8, j8, i8, k8, -⟩ := isW_ST hF h.1 (w := 1020) (by decide) (by decide)
  obtain rfl := k0 g
  obtain rfl := k1 g
  obtain rfl := k2 g
  obtain rfl := k3 g
  obtain rfl := k4 g
  obtain rfl := k5 g
  obtain rfl := k6 g
  obtain rfl := k7 g
  obtain rfl := k8 g
  have ex : ∀ (a b : Fin 9), ¬ a = b → ∀ {x : Bool}, g_M_is F D' ([1000, 1007, 1011, 1012, 1016, 1017, 1018, 1019, 1020].getD a.val 0) = some (b01 true) → g_M_is F D' ([1000, 1007, 1011, 1012, 1016, 1017, 1018, 1019, 1020].getD b.val 0) = some (b01 x) → x = false := fun a b hab x e1 e2 => by
    have rg : ∀ a : Fin 9, 1000 ≤ [1000, 1007, 1011, 1012, 1016, 1017, 1018, 1019, 1020].getD a.val 0 ∧ [1000, 1007, 1011, 1012, 1016, 1017, 1018, 1019, 1020].getD a.val 0 ≤ 1020 := by decide
    exact excl hF h g (rg a) (rg b) (df_all a b hab) e1 e2
  have nh : ∀ K : mx_D, g_M_readNext F D' = some K → g_M_readLine F D' = b_M_readLine_21 F K := fun K e => by
    unfold g_M_readLine
    rw [if_neg w7, e, ob_some]
  have hW := hD.2.1
  have lw : ∀ {S S' K K' : mx_D}, LK D D' S S' t → LN S S' K K' t → PO S' K K' → (K' 116 12 = 0 → RD K (K' 122) n) := fun l1 l2 l3 => by
    have := RD_PO (t := 0) (MF_122 l1.2.2.1) hW (by omega) l3
    rw [eN] at this
    exact this
  have gd := good_1 g
  cases x0
  case true =>
    obtain rfl := ex 0 1 (by decide) i0 i1
    obtain rfl := ex 0 2 (by decide) i0 i2
    obtain rfl := ex 0 3 (by decide) i0 i3
    obtain rfl := ex 0 4 (by decide) i0 i4
    obtain rfl := ex 0 5 (by decide) i0 i5
    obtain rfl := ex 0 6 (by decide) i0 i6
    obtain rfl := ex 0 7 (by decide) i0 i7
    obtain rfl := ex 0 8 (by decide) i0 i8
    have hb : ¬ g_M_errs (nI 1) D' 116 12 = 0 := (refuse_LK h (n := nI 1) (by decide)).2
    refine LO_bad hF h (K' := g_M_errs (nI 1) D') (fun c hc => rfl) ?_ (nh _ ?_)
    · unfold g_Reader_readLine b_Reader_readLine_21
      rw [j0, ob_some, if_neg d44, if_neg (show ¬ b01 true = nI 0 by decide)]
    · rw [next_none ⟨i1, i2, i3, i4, i5, i6, i7, i8⟩, n87_B hF hb]
  case false =>
  cases x1
  case true =>
    obtain rfl := ex 1 2 (by decide) i1 i2
    obtain rfl := ex 1 3 (by decide) i1 i3
    obtain rfl := ex 1 4 (by decide) i1 i4
    obtain rfl := ex 1 5 (by decide) i1 i5
    obtain rfl := ex 1 6 (by decide) i1 i6
    obtain rfl := ex 1 7 (by decide) i1 i7
    obtain rfl := ex 1 8 (by decide) i1 i8
    obtain ⟨S, S', s1, s2, s3, s4, s5⟩ := start_LK hF (w := 1007) (by decide) (by decide) h g i1
    obtain ⟨K, K', r1, r2, r3, r4⟩ := pew_LN hF s1 s4.1 (DT_LK hD s4)
    refine LO_of hF (LN_t (LN_k s4) r3) hn (lw s4 r3 r4) ?_ (nh _ ?_)
    · unfold g_Reader_readLine b_Reader_readLine_21
      rw [j0, ob_some, if_neg d44, if_pos (show b01 false = nI 0 from rfl), ob_some, if0, j1, ob_some, if1, r1, ob_some]
    · rw [next_one ⟨i1, i2, i3, i4, i5, i6, i7, i8⟩ rfl, next_152 ⟨i1, i2, i3, i4, i5, i6, i7, i8⟩ (fun e => absurd e (by decide)) (fun e => absurd e (by decide)) (fun e => absurd e (by decide))]
      unfold b_M_readNext_152
      rw [gd, if1n, s2, ob_some, if1, obs, r2]
  case false =>
  cases x2
  case true =>
    obtain rfl := ex 2 3 (by decide) i2 i3
    obtain rfl := ex 2 4 (by decide) i2 i4
    obtain rfl := ex 2 5 (by decide) i2 i5
    obtain rfl := ex 2 6 (by decide) i2 i6
    obtain rfl := ex 2 7 (by decide) i2 i7
    obtain rfl := ex 2 8 (by decide) i2 i8
    obtain ⟨S, S', s1, s2, s3, s4, s5⟩ := start_LK hF (w := 1011) (by decide) (by decide) h g i2
    obtain ⟨K, K', r1, r2, r3, r4⟩ := tren_LN hF s1 s4.1 (DT_LK hD s4)
    refine LO_of hF (LN_t (LN_k s4) r3) hn (lw s4 r3 r4) ?_ (nh _ ?_)
    · unfold g_Reader_readLine b_Reader_readLine_21
      rw [j0, ob_some, if_neg d44, if_pos (show b01 false = nI 0 from rfl), ob_some, if0, j1, ob_some, if0, j2, ob_some, if1, r1, ob_some]
    · rw [next_one ⟨i1, i2, i3, i4, i5, i6, i7, i8⟩ rfl, next_152 ⟨i1, i2, i3, i4, i5, i6, i7, i8⟩ (fun e => absurd e (by decide)) (fun e => absurd e (by decide)) (fun e => absurd e (by decide))]
      unfold b_M_readNext_152
      rw [gd, if1n, takes_no i1, ob_some, if0, s2, ob_some, if1, obs, r2]
  case false =>
  cases x3
  case true =>
    obtain rfl := ex 3 4 (by decide) i3 i4
    obtain rfl := ex 3 5 (by decide) i3 i5
    obtain rfl := ex 3 6 (by decide) i3 i6
    obtain rfl := ex 3 7 (by decide) i3 i7
    obtain rfl := ex 3 8 (by decide) i3 i8
    have cls : ∀ K, g_Reader_readPerson F D = some K → g_Reader_readLine F D = Option.bind (g_Reader_takeSign F K) (fun r => some r) := fun K r1 => by
      unfold g_Reader_readLine b_Reader_readLine_21
      rw [j0, ob_some, if_neg d44, if_pos (show b01 false = nI 0 from rfl), ob_some, if0, j1, ob_some, if0, j2, ob_some, if0, j3, ob_some, if1, r1, ob_some]
    by_cases c : nA (D' 122) < 8
    · obtain ⟨S, S', s1, s2, s3, s4, s5⟩ := start_LK hF (w := 1012) (by decide) (by decide) h g i3
      have eS := MF_122 s4.2.2.1
      obtain ⟨K, K', r1, r2, r3, r4⟩ := per_LN hF s1 s4.2.1 s4.1 (DT_LK hD s4) (by rw [eS]; exact hP) (by rw [eS]; exact hN) (by rw [eS]; exact c)
      refine LO_of hF (LN_t (LN_k s4) r3) hn (lw s4 r3 r4) (cls K r1) (nh _ ?_)
      rw [next_one ⟨i1, i2, i3, i4, i5, i6, i7, i8⟩ rfl, next_152 ⟨i1, i2, i3, i4, i5, i6, i7, i8⟩ (fun _ e => by rw [wf_A hW] at e; have := (nI_eq (by omega) (by omega)).mp e; omega) (fun e => absurd e (by decide)) (fun e => absurd e (by decide))]
      unfold b_M_readNext_152
      rw [gd, if1n, takes_no i1, ob_some, if0, takes_no i2, ob_some, if0, s2, ob_some, if1, obs, r2]
    · have c8 : nA (D' 122) = 8 := by have := wf_A8 hW; omega
      obtain ⟨l1, l2⟩ := refuse_LK h (n := nI 3) (by decide)
      obtain ⟨K, r1, r2⟩ := per_B hF l1.1 l2
      refine LO_of hF (LN_k (LK_t l1 r2)) hn (fun e => absurd e l2) (cls K ?_) (nh _ ?_)
      · unfold g_Reader_readPerson
        rw [bd_4 hD, wf_A hW, c8, if_neg (by decide)]
        exact r1
      · rw [next_one ⟨i1, i2, i3, i4, i5, i6, i7, i8⟩ rfl]
        unfold b_M_readNext_87 b_M_readNext_147
        rw [i3, ob_some, if1, wf_A hW, c8, if_pos rfl, n152_B l2]
  case false =>
  cases x4
  case true =>
    obtain rfl := ex 4 5 (by decide) i4 i5
    obtain rfl := ex 4 6 (by decide) i4 i6
    obtain rfl := ex 4 7 (by decide) i4 i7
    obtain rfl := ex 4 8 (by decide) i4 i8
    obtain ⟨S, S', s1, s2, s3, s4, s5⟩ := start_LK hF (w := 1016) (by decide) (by decide) h g i4
    have eS := MF_122 s4.2.2.1
    obtain ⟨K, K', r1, r2, r3, r4⟩ := sit_LN hF s1 s4.1 s5 (DT_LK hD s4) (by rw [eS]; exact hP)
    refine LO_of hF (LN_t (LN_k s4) r3) hn (lw s4 r3 r4) ?_ (nh _ ?_)
    · unfold g_Reader_readLine b_Reader_readLine_21
      rw [j0, ob_some, if_neg d44, if_pos (show b01 false = nI 0 from rfl), ob_some, if0, j1, ob_some, if0, j2, ob_some, if0, j3, ob_some, if0, j4, ob_some, if1, r1, ob_some]
    · rw [next_one ⟨i1, i2, i3, i4, i5, i6, i7, i8⟩ rfl, next_152 ⟨i1, i2, i3, i4, i5, i6, i7, i8⟩ (fun e => absurd e (by decide)) (fun e => absurd e (by decide)) (fun e => absurd e (by decide))]
      unfold b_M_readNext_152
      rw [gd, if1n, takes_no i1, ob_some, if0, takes_no i2, ob_some, if0, takes_no i3, ob_some, if0, s2, ob_some, if1, obs, r2]
  case false =>
  cases x5
  case true =>
    obtain rfl := ex 5 6 (by decide) i5 i6
    obtain rfl := ex 5 7 (by decide) i5 i7
    obtain rfl := ex 5 8 (by decide) i5 i8
    have cls : ∀ K, g_Reader_readHat F D = some K → g_Reader_readLine F D = Option.bind (g_Reader_takeSign F K) (fun r => some r) := fun K r1 => by
      unfold g_Reader_readLine b_Reader_readLine_21
      rw [j0, ob_some, if_neg d44, if_pos (show b01 false = nI 0 from rfl), ob_some, if0, j1, ob_some, if0, j2, ob_some, if0, j3, ob_some, if0, j4, ob_some, if0, j5, ob_some, if1, r1, ob_some]
    by_cases c : nH (D' 122) < 8
    · obtain ⟨S, S', s1, s2, s3, s4, s5⟩ := start_LK hF (w := 1017) (by decide) (by decide) h g i5
      have eS := MF_122 s4.2.2.1
      obtain ⟨r', K, K', r1, r2, r3, r4, r5⟩ := hat_LN hF s1 s4.2.1 s4.1 (DT_LK hD s4) (by rw [eS]; exact hP) (by rw [eS]; exact hN) (by rw [eS]; exact c)
      refine LO_of hF (LN_t (LN_k s4) r3) hn (lw s4 r3 r5) (cls K r1) (nh _ ?_)
      rw [next_one ⟨i1, i2, i3, i4, i5, i6, i7, i8⟩ rfl, next_152 ⟨i1, i2, i3, i4, i5, i6, i7, i8⟩ (fun e => absurd e (by decide)) (fun _ e => by rw [wf_H hW] at e; have := (nI_eq (by omega) (by omega)).mp e; omega) (fun e => absurd e (by decide))]
      unfold b_M_readNext_152
      have w5 : S' 122 5 = nI (nH (S' 122)) := by rw [eS]; exact wf_H hW
      have cS : nH (S' 122) < 8 := by rw [eS]; exact c
      rw [gd, if1n, takes_no i1, ob_some, if0, takes_no i2, ob_some, if0, takes_no i3, ob_some, if0, takes_no i4, ob_some, if0, s2, ob_some, if1, r2, ob_some]
      show rk 106 (nI 88 + S' 122 5) (some (sD (sD K' 122 (nI 88 + S' 122 5).toNatClampNeg r') 122 5 (sD K' 122 (nI 88 + S' 122 5).toNatClampNeg r' 122 5 + nI 1))) = _
      generalize hh : nH (S' 122) = a at w5 cS ⊢
      rw [w5, nI_add, rk_in (by omega) (by decide), nI_clamp (by omega), sD_nj _ _ _ (by omega), r4, w5, nI_add]
    · have c8 : nH (D' 122) = 8 := by have := wf_H8 hW; omega
      obtain ⟨l1, l2⟩ := refuse_LK h (n := nI 3) (by decide)
      obtain ⟨K, r1, r2⟩ := hat_B hF l1.1 l2
      refine LO_of hF (LN_k (LK_t l1 r2)) hn (fun e => absurd e l2) (cls K ?_) (nh _ ?_)
      · unfold g_Reader_readHat
        rw [bd_5 hD, wf_H hW, c8, if_neg (by decide)]
        exact r1
      · rw [next_one ⟨i1, i2, i3, i4, i5, i6, i7, i8⟩ rfl]
        unfold b_M_readNext_87 b_M_readNext_107 b_M_readNext_147
        rw [i3, ob_some, if0, i5, ob_some, if1, wf_H hW, c8, if_pos rfl, n152_B l2]
  case false =>
  cases x6
  case true =>
    obtain rfl := ex 6 7 (by decide) i6 i7
    obtain rfl := ex 6 8 (by decide) i6 i8
    obtain ⟨S, S', s1, s2, s3, s4, s5⟩ := start_LK hF (w := 1018) (by decide) (by decide) h g i6
    have eS := MF_122 s4.2.2.1
    obtain ⟨K, K', r1, r2, r3, r4⟩ := wear_LN hF s1 s4.1 s5 (DT_LK hD s4) (by rw [eS]; exact hP)
    refine LO_of hF (LN_t (LN_k s4) r3) hn (lw s4 r3 r4) ?_ (nh _ ?_)
    · unfold g_Reader_readLine b_Reader_readLine_21
      rw [j0, ob_some, if_neg d44, if_pos (show b01 false = nI 0 from rfl), ob_some, if0, j1, ob_some, if0, j2, ob_some, if0, j3, ob_some, if0, j4, ob_some, if0, j5, ob_some, if0, j6, ob_some, if1, r1, ob_some]
    · rw [next_one ⟨i1, i2, i3, i4, i5, i6, i7, i8⟩ rfl, next_152 ⟨i1, i2, i3, i4, i5, i6, i7, i8⟩ (fun e => absurd e (by decide)) (fun e => absurd e (by decide)) (fun e => absurd e (by decide))]
      unfold b_M_readNext_152
      rw [gd, if1n, takes_no i1, ob_some, if0, takes_no i2, ob_some, if0, takes_no i3, ob_some, if0, takes_no i4, ob_some, if0, takes_no i5, ob_some, if0, s2, ob_some, if1, obs, r2]
  case false =>
  cases x7
  case true =>
    obtain rfl := ex 7 8 (by decide) i7 i8
    have cls : ∀ K, g_Reader_readBook F D = some K → g_Reader_readLine F D = Option.bind (g_Reader_takeSign F K) (fun r => some r) := fun K r1 => by
      unfold g_Reader_readLine b_Reader_readLine_21
      rw [j0, ob_some, if_neg d44, if_pos (show b01 false = nI 0 from rfl), ob_some, if0, j1, ob_some, if0, j2, ob_some, if0, j3, ob_some, if0, j4, ob_some, if0, j5, ob_some, if0, j6, ob_some, if0, j7, ob_some, if1, r1, ob_some]
    by_cases c : nB (D' 122) < 5
    · obtain ⟨S, S', s1, s2, s3, s4, s5⟩ := start_LK hF (w := 1019) (by decide) (by decide) h g i7
      have eS := MF_122 s4.2.2.1
      obtain ⟨r', K, K', r1, r2, r3, r4, r5⟩ := book_LN hF s1 s4.2.1 s4.1 (DT_LK hD s4) (by rw [eS]; exact hP) (by rw [eS]; exact hN) (by rw [eS]; exact c)
      refine LO_of hF (LN_t (LN_k s4) r3) hn (lw s4 r3 r5) (cls K r1) (nh _ ?_)
      rw [next_one ⟨i1, i2, i3, i4, i5, i6, i7, i8⟩ rfl, next_152 ⟨i1, i2, i3, i4, i5, i6, i7, i8⟩ (fun e => absurd e (by decide)) (fun e => absurd e (by decide)) (fun _ e => by rw [wf_B hW] at e; have := (nI_eq (by omega) (by omega)).mp e; omega)]
      unfold b_M_readNext_152
      have w6 : S' 122 6 = nI (nB (S' 122)) := by rw [eS]; exact wf_B hW
      have cS : nB (S' 122) < 5 := by rw [eS]; exact c
      rw [gd, if1n, takes_no i1, ob_some, if0, takes_no i2, ob_some, if0, takes_no i3, ob_some, if0, takes_no i4, ob_some, if0, takes_no i5, ob_some, if0, takes_no i6, ob_some, if0, s2, ob_some, if1, r2, ob_some]
      dsimp only
      generalize hh : nB (S' 122) = a at w6 cS ⊢
      rw [w6, pk_mul, nI_add, rk_in (by omega) (by decide), nI_clamp (by omega), sD_nj _ _ _ (show 6 ≠ 96 + 2 * a by omega), r4, w6, pk_mul, nI_add, nI_add, rk_in (by omega) (by decide), nI_clamp (by omega), sD_nj _ _ _ (show 6 ≠ 96 + 2 * a + 1 by omega), sD_nj _ _ _ (show 6 ≠ 96 + 2 * a by omega), r4, w6, nI_add]
    · have c8 : nB (D' 122) = 5 := by have := wf_B5 hW; omega
      obtain ⟨l1, l2⟩ := refuse_LK h (n := nI 3) (by decide)
      obtain ⟨K, r1, r2⟩ := book_B hF l1.1 l2
      refine LO_of hF (LN_k (LK_t l1 r2)) hn (fun e => absurd e l2) (cls K ?_) (nh _ ?_)
      · unfold g_Reader_readBook
        rw [bd_6 hD, wf_B hW, c8, if_neg (by decide)]
        exact r1
      · rw [next_one ⟨i1, i2, i3, i4, i5, i6, i7, i8⟩ rfl]
        unfold b_M_readNext_87 b_M_readNext_107 b_M_readNext_127 b_M_readNext_147
        rw [i3, ob_some, if0, i5, ob_some, if0, i7, ob_some, if1, wf_B hW, c8, if_pos rfl, n152_B l2]
  case false =>
  cases x8
  case true =>
    obtain ⟨S, S', s1, s2, s3, s4, s5⟩ := start_LK hF (w := 1020) (by decide) (by decide) h g i8
    have eS := MF_122 s4.2.2.1
    obtain ⟨K, K', r1, r2, r3, r4⟩ := stan_LN hF s1 s4.1 (DT_LK hD s4) (by rw [eS]; exact hP)
    refine LO_of hF (LN_t (LN_k s4) r3) hn (lw s4 r3 r4) ?_ (nh _ ?_)
    · unfold g_Reader_readLine b_Reader_readLine_21
      rw [j0, ob_some, if_neg d44, if_pos (show b01 false = nI 0 from rfl), ob_some, if0, j1, ob_some, if0, j2, ob_some, if0, j3, ob_some, if0, j4, ob_some, if0, j5, ob_some, if0, j6, ob_some, if0, j7, ob_some, if0, j8, ob_some, if1, r1, ob_some]
    · rw [next_one ⟨i1, i2, i3, i4, i5, i6, i7, i8⟩ rfl, next_152 ⟨i1, i2, i3, i4, i5, i6, i7, i8⟩ (fun e => absurd e (by decide)) (fun e => absurd e (by decide)) (fun e => absurd e (by decide))]
      unfold b_M_readNext_152
      rw [gd, if1n, takes_no i1, ob_some, if0, takes_no i2, ob_some, if0, takes_no i3, ob_some, if0, takes_no i4, ob_some, if0, takes_no i5, ob_some, if0, takes_no i6, ob_some, if0, takes_no i7, ob_some, if0, s3, ob_some, obs, r2]
  case false =>
    have hb : ¬ g_M_errs (nI 1) D' 116 12 = 0 := (refuse_LK h (n := nI 1) (by decide)).2
    refine LO_bad hF h (K' := g_M_errs (nI 1) D') (fun c hc => rfl) ?_ (nh _ ?_)
    · unfold g_Reader_readLine b_Reader_readLine_21
      rw [j0, ob_some, if_neg d44, if_pos (show b01 false = nI 0 from rfl), ob_some, if0, j1, ob_some, if0, j2, ob_some, if0, j3, ob_some, if0, j4, ob_some, if0, j5, ob_some, if0, j6, ob_some, if0, j7, ob_some, if0, j8, ob_some, if0]
    · rw [next_none ⟨i1, i2, i3, i4, i5, i6, i7, i8⟩, n87_B hF hb]
end CN
