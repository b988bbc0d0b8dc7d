/-! ===== both readers in step: who sits, wears, stands ===== -/
section LK3
variable {D D' D0 : mx_D} {F : Nat}
theorem if_b {α : Type} {β : Type} (f : α → β) (c : Bool) (A B : α) : (if b01 c = 0 then f A else f B) = f (if c = true then B else A) := by
  cases c
  · rw [if_pos zb0, if_neg (by decide)]
  · rw [if_neg zb1, if_pos rfl]
theorem if_z {α : Type} (z : Int32) (f : Int32 → α) : (if z = -1 then f (nI 0) else f (nI 1)) = f (b01 (decide (¬ z = -1))) := by
  by_cases c : z = -1
  · rw [if_pos c, decide_eq_false (fun q => q c)]
    rfl
  · rw [if_neg c, decide_eq_true c]
    rfl
theorem errs_if (c : Bool) (a : Int32) (D : mx_D) : (if c = true then g_M_errs a D else D) 122 = D 122 := by
  cases c
  · rw [if_neg (by decide)]
  · rw [if_pos rfl, (errs_M D a).1 122 (by decide)]
/-- the cells of the church that is read stay while numbers are read -/
theorem DT_XF {D1 : mx_D} {w : W_} (h : DT D w) (x : XF D D1) : DT D1 w := DT_x h (fun c q1 q2 => x c (by omega))
theorem sit_LN (hF : 2000 ≤ F) {t : Nat} (e0 : g_Reader_takeWord F 1016 D0 = some D) (h : S2 D D' t) (g : D' 116 12 = 0) (hD : DT D (D' 122)) (hP : 0 < nP (D' 122)) : ∃ D1 D1', g_Reader_readSits F D0 = some D1 ∧ g_M_readSits F D' = some D1' ∧ LN D D' D1 D1' t ∧ PO D' D1 D1' := by
  have hA8 := wf_A8 hD.2.1
  have hP4 := wf_P4 hD.2.1
  have hL5 := wf_L5 hD.2.1
  have w4 := wf_A hD.2.1
  generalize hw : D' 122 = w at hD hP hA8 hP4 hL5 w4
  have hWr : WF (D' 122) := by rw [hw]; exact hD.2.1
  have iw := M_isNextWith_s hWr g (k := 3) (by decide)
  rw [hw] at iw
  obtain ⟨r, r', A1, A1', a1, a2, ⟨ax, ap⟩, arf, apo, ain, abad⟩ := numIf hF h (a := nI 0) (b := D 9 6 - nI 1) (a' := nI 0) (b' := D' 122 4 - nI 1) (fun _ => ⟨rfl, by rw [bd_4 hD, hw], by rw [bd_4 hD, w4, dec_t (by omega)]; omega⟩) (fun r => vx r (nA w) && st w r.toNatClampNeg) (decide (D' 116 10 = nI 2) && (vx (D' 116 11) (nA w) && decide (¬ w (40 + 6 * (D' 116 11).toNatClampNeg + 3) = -1))) (fun _ => g) (fun _ => by
    rw [bd_4 hD, w4]
    have := vx_dec (n := nA w) (by omega) (D' 116 11)
    unfold st
    constructor
    · intro z
      simp only [Bool.and_eq_true] at z
      exact ⟨of_decide_eq_true z.1, (this.mp z.2.1).1, (this.mp z.2.1).2, by simp only [Bool.and_eq_true]; exact ⟨z.2.1, z.2.2⟩⟩
    · intro z
      simp only [Bool.and_eq_true]
      have z4 := z.2.2.2
      simp only [Bool.and_eq_true] at z4
      exact ⟨decide_eq_true z.1, z4.1, z4.2⟩)
  have hDA := DT_XF hD ax
  have sea1 := C_isSeated_s (CC_sh hDA.1) hDA.2.1 r
  have lA := arf (vx r (nA w) && st w r.toNatClampNeg) (fun _ => rfl)
  generalize hG : g_Reader_refuseNumberIf (b01 (vx r (nA w) && st w r.toNatClampNeg)) A1 = A2 at lA
  have hDA2 := DT_XF hD lA.2.1
  have eA' : A1' 122 = w := (MF_122 lA.2.2.1).trans hw
  obtain ⟨s, s', B1, B1', b1, b2, b3, b4, b5, b6⟩ := num_LK hF lA.1 (a := nI 0) (b := A2 4 0 - nI 1) (a' := nI 0) (b' := A1' 122 0 - nI 1) (fun _ => ⟨rfl, by rw [bd_0 hDA2, eA'], by rw [bd_0 hDA2, wf_P hDA2.2.1, dec_t (by omega)]; omega⟩)
  have lB := LK_t lA b3
  have hDB := DT_XF hD lB.2.1
  have eB' : B1' 122 = w := (MF_122 lB.2.2.1).trans hw
  unfold g_Reader_readSits g_M_readSits
  rw [e0, ob_some, a1, ob_some, seated_4, sea1, ob_some, hG, b1, ob_some, iw, ob_some, if_b (b_M_readSits_13 F)]
  unfold b_M_readSits_13
  rw [errs_if, a2, ob_some, b2, ob_some]
  by_cases gB : B1' 116 12 = 0
  · have gA := MF_g b3.2.2.1 gB
    obtain ⟨dA, rfl, q2, q3, q4⟩ := apo gA
    obtain ⟨rfl, q6, q7, -, -⟩ := b5 gB
    rw [bd_4 hD, w4] at q3
    rw [bd_0 hDA2, wf_P hDA2.2.1] at q7
    obtain ⟨x, hx, rfl⟩ := dec_of (by omega) q2 q3
    obtain ⟨p, hp, rfl⟩ := dec_of (by omega) q6 q7
    have hWB : WF (B1' 122) := by rw [eB']; exact hD.2.1
    have tk := M_isNextTaken_s (F := F) (by omega) hWB gB (k := 4) (by decide) (nI p)
    rw [eB'] at tk
    have es : ∀ v, ff (fun x => decide (w (40 + 6 * x + 4) = v) && (decide (nI p = -1) || decide (w (40 + 6 * x + 3) = nI p))) (nA w) 0 = sat w (nI p) v := fun v => by
      unfold sat
      refine ff_c _ _ (fun i _ _ => ?_)
      rw [decide_eq_false (nI_m1 (n := p) (by omega)), Bool.false_or, Bool.and_comm]
    rw [es] at tk
    have inr : ∀ v, ¬ sat w (nI p) v = -1 → nI 0 ≤ v ∧ v ≤ nI (nL w) - nI 1 := fun v hv => by
      unfold sat at hv
      rcases ff_sp (fun x => decide (w (40 + 6 * x + 3) = nI p) && decide (w (40 + 6 * x + 4) = v)) (nA w) 0 with ⟨z1, z2⟩ | ⟨j, z1, z2, z3, z4, z5⟩
      · exact absurd z1 hv
      · simp only [Bool.and_eq_true, decide_eq_true_eq] at z3
        have hs := st_t z3.1 (by omega)
        obtain ⟨y1, y2, y3, y4⟩ := wf_sit hD.2.1 (x := j) (by omega) hs
        have := (vx_dec (n := nL w) (by omega) v).mp
        apply this
        rw [← z3.2, y3, vx_nI (by omega), decide_eq_true y4]
    obtain ⟨i, i', C1, C1', c1, c2, ⟨cx, cp⟩, crf, cpo, cin, cbad⟩ := numIf hF b3.1 (a := nI 0) (b := B1 4 1 - nI 1) (a' := nI 0) (b' := B1' 122 1 - nI 1) (fun _ => ⟨rfl, by rw [bd_1 hDB, eB'], by rw [bd_1 hDB, wf_L hDB.2.1, dec_t (by omega)]; omega⟩) (fun v => decide (¬ sat w (nI p) v = -1)) (decide (B1' 116 10 = nI 2) && decide (¬ sat w (nI p) (B1' 116 11) = -1)) (fun _ => gB) (fun _ => by
      rw [bd_1 hDB, wf_L hDB.2.1]
      simp only [Bool.and_eq_true, decide_eq_true_eq]
      exact ⟨fun z => ⟨z.1, (inr _ z.2).1, (inr _ z.2).2, z.2⟩, fun z => ⟨z.1, z.2.2.2⟩⟩)
    have hDC := DT_XF hDB cx
    have at1 := C_sitterAt_s (F := F) (by omega) (CC_sh hDC.1) hDC.2.1 (p := p) (by omega) i
    have lC := crf (decide (¬ sat w (nI p) i = -1)) (fun _ => rfl)
    have lAll := LK_t lB lC
    rw [c1, ob_some, sitterAt_4, at1, ob_some, tk, ob_some, if_b (b_M_readSits_55 F (nI x) (nI p))]
    show ∃ D1 D1', (if sat w (nI p) i = -1 then b_Reader_readSits_85 F (nI x) (nI p) i (nI 0) C1 else b_Reader_readSits_85 F (nI x) (nI p) i (nI 1) C1) = some D1 ∧ _
    rw [show (if sat w (nI p) i = -1 then b_Reader_readSits_85 F (nI x) (nI p) i (nI 0) C1 else b_Reader_readSits_85 F (nI x) (nI p) i (nI 1) C1) = b_Reader_readSits_85 F (nI x) (nI p) i (b01 (decide (¬ sat w (nI p) i = -1))) C1 from if_z (sat w (nI p) i) (fun z => b_Reader_readSits_85 F (nI x) (nI p) i z C1)]
    unfold b_Reader_readSits_85 b_M_readSits_55
    rw [errs_if]
    dsimp only
    rw [c2, ob_some]
    generalize hH : g_Reader_refuseNumberIf (b01 (decide (¬ sat w (nI p) i = -1))) C1 = C2 at lC lAll
    by_cases gC : C1' 116 12 = 0
    · obtain ⟨dC, rfl, y2, y3, y4⟩ := cpo gC
      rw [bd_1 hDB, wf_L hDB.2.1] at y3
      obtain ⟨j, hj, rfl⟩ := dec_of (by omega) y2 y3
      have hfree : sat w (nI p) (nI j) = -1 := by
        have := of_decide_eq_false y4
        exact Decidable.of_not_not this
      have hDC2 := DT_XF hD lAll.2.1
      have eC' : C1' 122 = w := (MF_122 lAll.2.2.1).trans hw
      have f0 : C2 3 1 = 0 := lAll.1.1.1.trans gC
      rw [if_pos f0, good_1 gC, if_neg z1]
      simp (disch := omega) only [rk_in, nI_clamp, pk_mul, nI_add]
      refine ⟨_, _, rfl, rfl, LN_w (LN_k lAll) (fun c hc => by rw [sD_nr _ _ _ (by omega), sD_nr _ _ _ (by omega)]) (fun c hc => by rw [sD_nr _ _ _ hc, sD_nr _ _ _ hc]), fun _ => ?_⟩
      rw [sD_row, sD_row, eC']
      have q := DT_sea hDC2 hx hp hj hfree
      refine ⟨q, ?_, ?_⟩
      · rw [hw, upd_ne _ _ (by omega), upd_ne _ _ (by omega)]
      · unfold nP
        rw [upd_ne _ _ (by omega), upd_ne _ _ (by omega)]
        exact hP
    · rw [if_neg (fun e => gC (lAll.1.1.1.symm.trans e)), good_0 gC, if_pos z0]
      exact ⟨_, _, rfl, rfl, LN_k lAll, fun e => absurd e gC⟩
  · have hs := b6 gB
    subst hs
    obtain ⟨C1, c1, c2⟩ := num_B hF b3.1 gB (nI 0) (B1 4 1 - nI 1)
    have lC := LK_t lB c2
    have hDC := DT_XF hD lC.2.1
    have tk : g_M_isNextTaken F B1' (nI 4) s' = some (nI 0) := by
      unfold g_M_isNextTaken
      rw [good_0 gB, if_pos z0]
    rw [c1, ob_some, sitterAt_4, C_sitterAt_m1 (by omega) (CC_sh hDC.1) hDC.2.1, ob_some, if_pos rfl, tk, ob_some, if_pos z0]
    unfold b_Reader_readSits_85 b_M_readSits_55 g_Reader_refuseNumberIf
    rw [number_B _ _ gB, ob_some, good_0 gB, if_pos z0, if_pos z0, if_neg (fun e => gB (lC.1.1.1.symm.trans e))]
    exact ⟨_, _, rfl, rfl, LN_k lC, fun e => absurd e gB⟩
theorem wear_LN (hF : 2000 ≤ F) {t : Nat} (e0 : g_Reader_takeWord F 1018 D0 = some D) (h : S2 D D' t) (g : D' 116 12 = 0) (hD : DT D (D' 122)) (hP : 0 < nP (D' 122)) : ∃ D1 D1', g_Reader_readWears F D0 = some D1 ∧ g_M_readWears F D' = some D1' ∧ LN D D' D1 D1' t ∧ PO D' D1 D1' := by
  have hA8 := wf_A8 hD.2.1
  have hH8 := wf_H8 hD.2.1
  have w4 := wf_A hD.2.1
  have w5 := wf_H hD.2.1
  generalize hw : D' 122 = w at hD hP hA8 hH8 w4 w5
  have hWr : WF (D' 122) := by rw [hw]; exact hD.2.1
  have iw := M_isNextWith_s hWr g (k := 5) (by decide)
  rw [hw] at iw
  obtain ⟨r, r', A1, A1', a1, a2, ⟨ax, ap⟩, arf, apo, ain, abad⟩ := numIf hF h (a := nI 0) (b := D 9 6 - nI 1) (a' := nI 0) (b' := D' 122 4 - nI 1) (fun _ => ⟨rfl, by rw [bd_4 hD, hw], by rw [bd_4 hD, w4, dec_t (by omega)]; omega⟩) (fun r => decide (¬ w (40 + 6 * r.toNatClampNeg + 5) = -1)) (decide (D' 116 10 = nI 2) && (vx (D' 116 11) (nA w) && decide (¬ w (40 + 6 * (D' 116 11).toNatClampNeg + 5) = -1))) (fun _ => g) (fun _ => by
    rw [bd_4 hD, w4]
    have := vx_dec (n := nA w) (by omega) (D' 116 11)
    constructor
    · intro z
      simp only [Bool.and_eq_true] at z
      exact ⟨of_decide_eq_true z.1, (this.mp z.2.1).1, (this.mp z.2.1).2, z.2.2⟩
    · intro z
      simp only [Bool.and_eq_true]
      exact ⟨decide_eq_true z.1, this.mpr ⟨z.2.1, z.2.2.1⟩, z.2.2.2⟩)
  have hDA := DT_XF hD ax
  -- the class's test behind its first number
  have fst : ∃ x : Bool, (if A1 3 1 = 0 then rk 8 r (if A1 15 r.toNatClampNeg = -1 then b_Reader_readWears_52 F r A1 else b_Reader_readWears_53 F r (nI 1) A1) else b_Reader_readWears_52 F r A1) = b_Reader_readWears_53 F r (b01 x) A1 ∧ (A1 3 1 = 0 → x = decide (¬ w (40 + 6 * r.toNatClampNeg + 5) = -1)) := by
    by_cases c : A1 3 1 = 0
    · obtain ⟨i1, i2⟩ := ain c
      rw [bd_4 hD, w4] at i2
      obtain ⟨x, hx, rfl⟩ := dec_of (by omega) i1 i2
      refine ⟨decide (¬ w (40 + 6 * x + 5) = -1), ?_, fun _ => by rw [nI_clamp (by omega)]⟩
      have d15 : A1 15 x = w (40 + 6 * x + 5) := c_30 (CC_sh hDA.1) hx
      rw [if_pos c, rk_in (by omega) (by decide), nI_clamp (by omega), d15]
      by_cases z : w (40 + 6 * x + 5) = -1
      · rw [if_pos z, decide_eq_false (fun q => q z)]
        rfl
      · rw [if_neg z, decide_eq_true z]
        rfl
    · exact ⟨false, by rw [if_neg c]; rfl, fun e => absurd e c⟩
  obtain ⟨x0, fe, fx⟩ := fst
  have lA := arf x0 fx
  have eA' : A1' 122 = w := (MF_122 lA.2.2.1).trans hw
  unfold g_Reader_readWears g_M_readWears
  rw [e0, ob_some, a1, ob_some, iw, ob_some, if_b (b_M_readWears_13 F)]
  show ∃ D1 D1', (if A1 3 1 = 0 then rk 8 r (if A1 15 r.toNatClampNeg = -1 then b_Reader_readWears_52 F r A1 else b_Reader_readWears_53 F r (nI 1) A1) else b_Reader_readWears_52 F r A1) = some D1 ∧ _
  rw [fe]
  unfold b_M_readWears_13 b_Reader_readWears_53
  rw [errs_if, a2, ob_some]
  generalize hG : g_Reader_refuseNumberIf (b01 x0) A1 = A2 at lA
  have hDA2 := DT_XF hD lA.2.1
  by_cases gA : A1' 116 12 = 0
  · obtain ⟨dA, rfl, q2, q3, q4⟩ := apo gA
    rw [bd_4 hD, w4] at q3
    obtain ⟨x, hx, rfl⟩ := dec_of (by omega) q2 q3
    have hWA : WF (A1' 122) := by rw [eA']; exact hD.2.1
    have tk := M_isNextTaken_s (F := F) (by omega) hWA gA (k := 5) (by decide) (-1)
    rw [eA'] at tk
    have es : ∀ v, ff (fun x => decide (w (40 + 6 * x + 5) = v) && (decide ((-1 : Int32) = -1) || decide (w (40 + 6 * x + 3) = -1))) (nA w) 0 = ff (fun x => decide (w (40 + 6 * x + 5) = v)) (nA w) 0 := fun v => by
      refine ff_c _ _ (fun i _ _ => ?_)
      rw [decide_eq_true (show (-1 : Int32) = -1 from rfl), Bool.true_or, Bool.and_true]
    rw [es] at tk
    have inr : ∀ v, nI 0 ≤ v → ¬ ff (fun x => decide (w (40 + 6 * x + 5) = v)) (nA w) 0 = -1 → nI 0 ≤ v ∧ v ≤ nI (nH w) - nI 1 := fun v hv0 hv => by
      rcases ff_sp (fun x => decide (w (40 + 6 * x + 5) = v)) (nA w) 0 with ⟨z1, z2⟩ | ⟨j, z1, z2, z3, z4, z5⟩
      · exact absurd z1 hv
      · simp only [decide_eq_true_eq] at z3
        rcases wf_ht hD.2.1 (x := j) (by omega) with y | ⟨y1, y2⟩
        · rw [← z3, y] at hv0
          exact absurd hv0 (by decide)
        · have := (vx_dec (n := nH w) (by omega) v).mp
          apply this
          rw [← z3, y1, vx_nI (by omega), decide_eq_true y2]
    -- a number that stands next is none below 0
    have nn : A1' 116 10 = nI 2 → nI 0 ≤ A1' 116 11 := fun e => by
      obtain ⟨h1, h2, h3, h4, h5, p, q, k, y1, y2, y3, y4, y5, y6, y7⟩ := lA.1.1.2.2.2 gA
      have k2 : k = 2 := (nI_eq (by omega) (by omega)).mp (y6.2.symm.trans e)
      obtain ⟨v, v1, v2⟩ := y7 k2
      rw [v2]
      exact nI_le (Nat.zero_le _) (by omega)
    obtain ⟨i, i', C1, C1', c1, c2, ⟨cx, cp⟩, crf, cpo, cin, cbad⟩ := numIf hF lA.1 (a := nI 0) (b := A2 4 10 - nI 1) (a' := nI 0) (b' := A1' 122 5 - nI 1) (fun _ => ⟨rfl, by rw [bd_5 hDA2, eA'], by rw [bd_5 hDA2, w5, dec_t (by omega)]; omega⟩) (fun v => decide (¬ ff (fun x => decide (w (40 + 6 * x + 5) = v)) (nA w) 0 = -1)) (decide (A1' 116 10 = nI 2) && decide (¬ ff (fun x => decide (w (40 + 6 * x + 5) = A1' 116 11)) (nA w) 0 = -1)) (fun _ => gA) (fun _ => by
      rw [bd_5 hDA2, w5]
      simp only [Bool.and_eq_true, decide_eq_true_eq]
      exact ⟨fun z => ⟨z.1, (inr _ (nn z.1) z.2).1, (inr _ (nn z.1) z.2).2, z.2⟩, fun z => ⟨z.1, z.2.2.2⟩⟩)
    have hDC := DT_XF hDA2 cx
    -- who wears it: of no hat, nobody
    have we : ∃ z, g_Church_wearerOf F (sh C1) i = some z ∧ (C1 3 1 = 0 → z = ff (fun x => decide (w (40 + 6 * x + 5) = i)) (nA w) 0) := by
      by_cases c : C1 3 1 = 0
      · obtain ⟨i1, i2⟩ := cin c
        rw [bd_5 hDA2, w5] at i2
        obtain ⟨j, hj, rfl⟩ := dec_of (by omega) i1 i2
        exact ⟨_, C_wearerOf_s (F := F) (by omega) (CC_sh hDC.1) hDC.2.1 (v := j) (by omega), fun _ => rfl⟩
      · have hi := cbad c
        subst hi
        exact ⟨_, C_wearerOf_m1 (F := F) (by omega) (CC_sh hDC.1) hDC.2.1, fun e => absurd e c⟩
    obtain ⟨z, we1, we2⟩ := we
    have lC := crf (decide (¬ z = -1)) (fun e => by rw [we2 e])
    have lAll := LK_t lA lC
    rw [c1, ob_some, wearerOf_4, we1, ob_some, tk, ob_some, if_b (b_M_readWears_41 F (nI x))]
    show ∃ D1 D1', (if z = -1 then b_Reader_readWears_89 F (nI x) i (nI 0) C1 else b_Reader_readWears_89 F (nI x) i (nI 1) C1) = some D1 ∧ _
    rw [show (if z = -1 then b_Reader_readWears_89 F (nI x) i (nI 0) C1 else b_Reader_readWears_89 F (nI x) i (nI 1) C1) = b_Reader_readWears_89 F (nI x) i (b01 (decide (¬ z = -1))) C1 from if_z z (fun y => b_Reader_readWears_89 F (nI x) i y C1)]
    unfold b_Reader_readWears_89 b_M_readWears_41
    rw [errs_if]
    dsimp only
    rw [c2, ob_some]
    generalize hH : g_Reader_refuseNumberIf (b01 (decide (¬ z = -1))) C1 = C2 at lC lAll
    by_cases gC : C1' 116 12 = 0
    · obtain ⟨dC, rfl, y2, y3, y4⟩ := cpo gC
      rw [bd_5 hDA2, w5] at y3
      obtain ⟨j, hj, rfl⟩ := dec_of (by omega) y2 y3
      have hfree : ff (fun x => decide (w (40 + 6 * x + 5) = nI j)) (nA w) 0 = -1 := Decidable.of_not_not (of_decide_eq_false y4)
      have hf2 : ∀ z, z < nA w → ¬ w (40 + 6 * z + 5) = nI j := fun z hz => by
        rcases ff_sp (fun x => decide (w (40 + 6 * x + 5) = nI j)) (nA w) 0 with ⟨u1, u2⟩ | ⟨u, u1, u2, u3, u4, u5⟩
        · exact of_decide_eq_false (u2 z (Nat.zero_le _) (by omega))
        · rw [u5] at hfree
          exact absurd hfree (nI_m1 (by omega))
      have hDC2 := DT_XF hD lAll.2.1
      have eC' : C1' 122 = w := (MF_122 lAll.2.2.1).trans hw
      have f0 : C2 3 1 = 0 := lAll.1.1.1.trans gC
      rw [if_pos f0, good_1 gC, if_neg z1]
      simp (disch := omega) only [rk_in, nI_clamp, pk_mul, nI_add]
      refine ⟨_, _, rfl, rfl, LN_w (LN_k lAll) (fun c hc => by rw [sD_nr _ _ _ (by omega)]) (fun c hc => by rw [sD_nr _ _ _ hc]), fun _ => ?_⟩
      rw [sD_row, eC']
      refine ⟨DT_wears hDC2 hx hj hf2, ?_, ?_⟩
      · rw [hw, upd_ne _ _ (by omega)]
      · unfold nP
        rw [upd_ne _ _ (by omega)]
        exact hP
    · rw [if_neg (fun e => gC (lAll.1.1.1.symm.trans e)), good_0 gC, if_pos z0]
      exact ⟨_, _, rfl, rfl, LN_k lAll, fun e => absurd e gC⟩
  · obtain ⟨C1, c1, c2⟩ := num_B hF lA.1 gA (nI 0) (A2 4 10 - nI 1)
    have lC := LK_t lA c2
    have hDC := DT_XF hD lC.2.1
    have tk : g_M_isNextTaken F A1' (nI 5) (-1) = some (nI 0) := by
      unfold g_M_isNextTaken
      rw [good_0 gA, if_pos z0]
    rw [c1, ob_some, wearerOf_4, C_wearerOf_m1 (by omega) (CC_sh hDC.1) hDC.2.1, ob_some, if_pos rfl, tk, ob_some, if_pos z0]
    unfold b_Reader_readWears_89 b_M_readWears_41 g_Reader_refuseNumberIf
    rw [number_B _ _ gA, ob_some, good_0 gA, if_pos z0, if_pos z0, if_neg (fun e => gA (lC.1.1.1.symm.trans e))]
    exact ⟨_, _, rfl, rfl, LN_k lC, fun e => absurd e gA⟩
theorem stan_LN (hF : 2000 ≤ F) {t : Nat} (e0 : g_Reader_takeWord F 1020 D0 = some D) (h : S2 D D' t) (hD : DT D (D' 122)) (hP : 0 < nP (D' 122)) : ∃ D1 D1', g_Reader_readStands F D0 = some D1 ∧ g_M_readStands F D' = some D1' ∧ LN D D' D1 D1' t ∧ PO D' D1 D1' := by
  have hA8 := wf_A8 hD.2.1
  have hB5 := wf_B5 hD.2.1
  have w4 := wf_A hD.2.1
  have w6 := wf_B hD.2.1
  generalize hw : D' 122 = w at hD hP hA8 hB5 w4 w6
  obtain ⟨r, r', A1, A1', a1, a2, a3, a4, a5, a6⟩ := num_LK hF h (a := nI 0) (b := D 9 6 - nI 1) (a' := nI 0) (b' := D' 122 4 - nI 1) (fun _ => ⟨rfl, by rw [bd_4 hD, hw], by rw [bd_4 hD, w4, dec_t (by omega)]; omega⟩)
  have hDA := DT_XF hD a3.2.1
  have eA' : A1' 122 = w := (MF_122 a3.2.2.1).trans hw
  -- the reference looks ahead
  have look : ∃ cm : Bool, (if g_M_good A1' = 0 then b_M_readStands_76 F r' A1' else if A1' 116 10 = nI 2 then (if g_M_in ((A1' 116 11).toInt64) (lN 0) ((A1' 122 6 - nI 1).toInt64) = 0 then b_M_readStands_76 F r' A1' else rk 106 (nI 96 + nI 2 * A1' 116 11 + nI 1) (if A1' 122 (nI 96 + nI 2 * A1' 116 11 + nI 1).toNatClampNeg = -1 then b_M_readStands_76 F r' A1' else b_M_readStands_76 F r' (g_M_errs (nI 2) A1'))) else b_M_readStands_76 F r' A1') = b_M_readStands_76 F r' (if cm = true then g_M_errs (nI 2) A1' else A1') ∧ (cm = true → A1' 116 12 = 0) ∧ (A1' 116 12 = 0 → (cm = true ↔ A1' 116 10 = nI 2 ∧ nI 0 ≤ A1' 116 11 ∧ A1' 116 11 ≤ nI (nB w) - nI 1 ∧ decide (¬ w (96 + 2 * (A1' 116 11).toNatClampNeg + 1) = -1) = true)) := by
    by_cases gA : A1' 116 12 = 0
    · by_cases c : A1' 116 10 = nI 2
      · have hv := vx_dec (n := nB w) (by omega) (A1' 116 11)
        rcases vx_c (A1' 116 11) (nB w) (by omega) with q | ⟨j, hj, q⟩
        · refine ⟨false, ?_, fun e => absurd e (by decide), fun _ => ⟨fun e => absurd e (by decide), fun e => ?_⟩⟩
          · rw [good_1 gA, if_neg z1, if_pos c, eA', w6, M_in_0 _ (by omega), vl_i, q, if_pos zb0, if_neg (by decide)]
          · rw [hv.mpr ⟨e.2.1, e.2.2.1⟩] at q
            exact absurd q (by decide)
        · rw [good_1 gA, if_neg z1, if_pos c, eA', w6, M_in_0 _ (by omega), vl_i, q, vx_nI (by omega), decide_eq_true hj, if_neg zb1, pk_mul, nI_add, nI_add, rk_in (by omega) (by decide), nI_clamp (by omega), nI_clamp (by omega)]
          have hv2 : nI 0 ≤ nI j ∧ nI j ≤ nI (nB w) - nI 1 := by
            rw [← q]
            exact hv.mp (by rw [q, vx_nI (by omega), decide_eq_true hj])
          refine ⟨decide (¬ w (96 + 2 * j + 1) = -1), ?_, fun _ => gA, fun _ => ⟨fun e => ⟨c, hv2.1, hv2.2, e⟩, fun e => e.2.2.2⟩⟩
          by_cases z : w (96 + 2 * j + 1) = -1
          · rw [if_pos z, decide_eq_false (fun q => q z), if_neg (by decide)]
          · rw [if_neg z, decide_eq_true z, if_pos rfl]
      · refine ⟨false, ?_, fun e => absurd e (by decide), fun _ => ⟨fun e => absurd e (by decide), fun e => absurd e.1 c⟩⟩
        rw [good_1 gA, if_neg z1, if_neg c, if_neg (by decide)]
    · refine ⟨false, ?_, fun e => absurd e (by decide), fun e => absurd e gA⟩
      rw [good_0 gA, if_pos z0, if_neg (by decide)]
  obtain ⟨cm, k1, k2, k3⟩ := look
  obtain ⟨i, i', C1, C1', c1, c2, ⟨cx, cp⟩, crf, cpo, cin, cbad⟩ := numIf hF a3.1 (a := nI 0) (b := A1 4 12 - nI 1) (a' := nI 0) (b' := (if cm = true then g_M_errs (nI 2) A1' else A1') 122 6 - nI 1) (fun _ => by
      have : (if cm = true then g_M_errs (nI 2) A1' else A1') 122 6 = A1' 122 6 := by
        cases cm
        · rw [if_neg (by decide)]
        · rw [if_pos rfl, (errs_M A1' (nI 2)).1 122 (by decide)]
      exact ⟨rfl, by rw [this, bd_6 hDA, eA'], by rw [bd_6 hDA, w6, dec_t (by omega)]; omega⟩) (fun v => decide (¬ w (96 + 2 * v.toNatClampNeg + 1) = -1)) cm k2 (fun e => by rw [bd_6 hDA, w6]; exact k3 e)
  have hDC := DT_XF hDA cx
  have fst : ∃ x : Bool, (if C1 3 1 = 0 then rk 5 i (if C1 18 i.toNatClampNeg = -1 then b_Reader_readStands_64 F r i C1 else b_Reader_readStands_65 F r i (nI 1) C1) else b_Reader_readStands_64 F r i C1) = b_Reader_readStands_65 F r i (b01 x) C1 ∧ (C1 3 1 = 0 → x = decide (¬ w (96 + 2 * i.toNatClampNeg + 1) = -1)) := by
    by_cases c : C1 3 1 = 0
    · obtain ⟨i1, i2⟩ := cin c
      rw [bd_6 hDA, w6] at i2
      obtain ⟨x, hx, rfl⟩ := dec_of (by omega) i1 i2
      refine ⟨decide (¬ w (96 + 2 * x + 1) = -1), ?_, fun _ => by rw [nI_clamp (by omega)]⟩
      have d18 : C1 18 x = w (96 + 2 * x + 1) := c_33 (CC_sh hDC.1) hx
      rw [if_pos c, rk_in (by omega) (by decide), nI_clamp (by omega), d18]
      by_cases z : w (96 + 2 * x + 1) = -1
      · rw [if_pos z, decide_eq_false (fun q => q z)]
        rfl
      · rw [if_neg z, decide_eq_true z]
        rfl
    · exact ⟨false, by rw [if_neg c]; rfl, fun e => absurd e c⟩
  obtain ⟨x0, fe, fx⟩ := fst
  have lC := crf x0 fx
  have lAll := LK_t a3 lC
  unfold g_Reader_readStands g_M_readStands
  rw [e0, ob_some, a1, ob_some, c1, ob_some, a2, ob_some]
  show ∃ D1 D1', (if C1 3 1 = 0 then rk 5 i (if C1 18 i.toNatClampNeg = -1 then b_Reader_readStands_64 F r i C1 else b_Reader_readStands_65 F r i (nI 1) C1) else b_Reader_readStands_64 F r i C1) = some D1 ∧ (if g_M_good A1' = 0 then b_M_readStands_76 F r' A1' else if A1' 116 10 = nI 2 then (if g_M_in ((A1' 116 11).toInt64) (lN 0) ((A1' 122 6 - nI 1).toInt64) = 0 then b_M_readStands_76 F r' A1' else rk 106 (nI 96 + nI 2 * A1' 116 11 + nI 1) (if A1' 122 (nI 96 + nI 2 * A1' 116 11 + nI 1).toNatClampNeg = -1 then b_M_readStands_76 F r' A1' else b_M_readStands_76 F r' (g_M_errs (nI 2) A1'))) else b_M_readStands_76 F r' A1') = some D1' ∧ _
  rw [fe, k1]
  unfold b_Reader_readStands_65 b_M_readStands_76
  rw [c2, ob_some]
  generalize hH : g_Reader_refuseNumberIf (b01 x0) C1 = C2 at lC lAll
  show ∃ D1 D1', _ ∧ (if g_M_good C1' = 0 then some C1' else rk 106 (nI 96 + nI 2 * i' + nI 1) (some (sD C1' 122 (nI 96 + nI 2 * i' + nI 1).toNatClampNeg r'))) = some D1' ∧ _
  by_cases gC : C1' 116 12 = 0
  · have gA := MF_g a3.2.2.1 (MF_g lC.2.2.1 gC)
    have gA1 := MF_g lC.2.2.1 gC
    obtain ⟨rfl, q2, q3, -, -⟩ := a5 gA1
    rw [bd_4 hD, w4] at q3
    obtain ⟨x, hx, rfl⟩ := dec_of (by omega) q2 q3
    obtain ⟨dC, rfl, y2, y3, y4⟩ := cpo gC
    rw [bd_6 hDA, w6] at y3
    obtain ⟨j, hj, rfl⟩ := dec_of (by omega) y2 y3
    have hDC2 := DT_XF hD lAll.2.1
    have eC' : C1' 122 = w := (MF_122 lAll.2.2.1).trans hw
    have f0 : C2 3 1 = 0 := lAll.1.1.1.trans gC
    rw [if_pos f0, good_1 gC, if_neg z1, pk_mul, nI_add, nI_add, rk_in (by omega) (by decide), rk_in (by omega) (by decide), nI_clamp (by omega), nI_clamp (by omega)]
    refine ⟨_, _, rfl, rfl, LN_w (LN_k lAll) (fun c hc => by rw [sD_nr _ _ _ (by omega)]) (fun c hc => by rw [sD_nr _ _ _ hc]), fun _ => ?_⟩
    rw [sD_row, eC']
    refine ⟨DT_stands hDC2 hj hx, ?_, ?_⟩
    · rw [hw, upd_ne _ _ (by omega)]
    · unfold nP
      rw [upd_ne _ _ (by omega)]
      exact hP
  · rw [if_neg (fun e => gC (lAll.1.1.1.symm.trans e)), good_0 gC, if_pos z0]
    exact ⟨_, _, rfl, rfl, LN_k lAll, fun e => absurd e gC⟩
end LK3
