/-! ===== books: the reference's giving ===== -/
section BM
variable {F : Nat} {D D0 : mx_D} {E : mx_E} {w : W_}
theorem M_setSt_s {b : Nat} (hb : b < 5) (v : Int32) (D : mx_D) : g_M_setStands (nI b) v D = some (sD D 117 (96 + 2 * b + 1) v) := by
  unfold g_M_setStands
  simp (disch := omega) only [rk_in, ob_some, nI_add, pk_mul, nI_clamp, sD_eq, sD_ne, zk_0, zk_1, Option.some.injEq]
def BS (D0 D : mx_D) (w : W_) (o : UU) (A : List UU) : Prop := (∀ c, c ≠ 116 → c ≠ 117 → c ≠ 123 → c ≠ 130 → D c = D0 c) ∧ (∀ i, i ≠ 26 → i ≠ 27 → D 116 i = D0 116 i) ∧ D 117 = wo w o ∧ D 116 27 = nI A.length ∧ ((bst w A = none ∧ D 116 26 = -1) ∨ ∃ a, bst w A = some a ∧ D 116 26 = nI (gvn w a) ∧ ∀ b, b < nB w → D 130 b = a b)
theorem BS_set {o : UU} {A : List UU} (h : BS D0 D w o A) {b : Nat} (hb : b < 5) (v : Int32) : BS D0 (sD D 117 (96 + 2 * b + 1) v) w (upd o b v) A := by
  obtain ⟨h1, h2, h3, h4, h5⟩ := h
  have e6 : sD D 117 (96 + 2 * b + 1) v 116 = D 116 := sD_nr _ _ _ (by decide)
  have e0 : sD D 117 (96 + 2 * b + 1) v 130 = D 130 := sD_nr _ _ _ (by decide)
  refine ⟨fun c q1 q2 q3 q4 => ?_, fun i q1 q2 => ?_, ?_, ?_, ?_⟩
  · rw [sD_nr _ _ _ q2, h1 c q1 q2 q3 q4]
  · rw [e6, h2 i q1 q2]
  · rw [sD_row, h3, wo_upd w o hb v]
  · rw [e6, h4]
  · rw [e6, e0]
    exact h5
def KG (F y f : Nat) : Int32 × mx_D → Option mx_D := fun r => if r.1 = 0 then g_M_giveAll_168 F F (nI 0) r.2 else g_M_giveAll_46 F f (nI y) r.2
theorem KG_1 (F y f : Nat) (X : mx_D) : KG F y f (nI 1, X) = g_M_giveAll_46 F f (nI y) X := if_neg (show ¬ nI 1 = 0 by decide)
theorem KG_0 (F y f : Nat) (X : mx_D) : KG F y f (nI 0, X) = g_M_giveAll_168 F F (nI 0) X := if_pos (show nI 0 = 0 from rfl)
theorem st_wo (hA : nA w ≤ 8) (o : UU) {x : Nat} (hx : x < nA w) : st (wo w o) x = st w x := by
  unfold st
  rw [wo_n _ _ (by omega)]
/-- one row of owners is looked at -/
theorem M_gmet_s (hF : 1000 ≤ F) (hW : WF w) {y : Nat} (hy : y ≤ 30) {o : UU} (ho : OOK w o) {A : List UU} (h : BS D0 D w o A) (hl : A.length + 1 < 2 ^ 31) (f : Nat) : ∃ D', BS D0 D' w o (A ++ if LB w y o = true then [o] else []) ∧ g_M_giveAll_46 F (f + 1) (nI y) D = Option.bind (g_M_nextGiving F D') (KG F y f) := by
  have hB := wf_B5 hW
  obtain ⟨h1, h2, h3, h4, h5⟩ := h
  obtain ⟨X, x1, x2, -⟩ := M_isLevel_s (D := D) (F := F) (by omega) (by rw [h3]; exact WF_wo hW ho) hy
  rw [h3] at x1
  have g1 : ∀ c, c ≠ 116 → c ≠ 117 → c ≠ 123 → c ≠ 130 → X c = D0 c := fun c q1 q2 q3 q4 => by rw [x2 c q3, h1 c q1 q2 q3 q4]
  have e116 : X 116 = D 116 := x2 116 (by decide)
  have e130 : X 130 = D 130 := x2 130 (by decide)
  have x7 : X 117 = wo w o := by rw [x2 117 (by decide), h3]
  rw [s_M_giveAll_46]
  unfold b_M_giveAll_46
  rw [x1, ob_some]
  dsimp only
  rw [show lev (wo w o) y = LB w y o from rfl]
  cases hL : LB w y o
  · rw [if_pos (show b01 false = 0 from rfl), if_neg (show ¬ false = true by decide), List.append_nil]
    exact ⟨X, ⟨g1, by rw [e116]; exact h2, x7, by rw [e116]; exact h4, by rw [e116, e130]; exact h5⟩, rfl⟩
  · rw [if_neg (show ¬ b01 true = 0 by decide), if_pos rfl]
    -- one more that is level
    have s1 : ∀ c, c ≠ 116 → sD X 116 27 (X 116 27 + nI 1) c = X c := fun c hc => sD_nr _ _ _ hc
    have s2 : ∀ i, i ≠ 27 → sD X 116 27 (X 116 27 + nI 1) 116 i = X 116 i := fun i hi => sD_nj _ _ _ hi
    have s3 : sD X 116 27 (X 116 27 + nI 1) 116 27 = nI (A.length + 1) := by rw [sD_eq, e116, h4, nI_add]
    generalize sD X 116 27 (X 116 27 + nI 1) = S at s1 s2 s3 ⊢
    have s7 : S 117 = wo w o := by rw [s1 117 (by decide), x7]
    have s26 : S 116 26 = D 116 26 := by rw [s2 26 (by decide), e116]
    have s130 : S 130 = D 130 := by rw [s1 130 (by decide), e130]
    have sB : ∀ T : mx_D, T 117 = wo w o → T 117 6 = nI (nB w) := fun T e => by rw [e, wo_n w o (by omega), wf_B hW]
    -- how many are given
    have c1 : g_M_giveAll_71 F (g_M_giveAll_46 F f) F (nI y) (nI 0) (nI 0) S = b_M_giveAll_105 F (g_M_giveAll_46 F f) (nI y) (nI (gvn w o)) S := by
      refine lu0 (fun f' b => g_M_giveAll_71 F (g_M_giveAll_46 F f) f' (nI y) (nI (fo (fun b s => s + (if o b = -1 then 0 else 1)) 0 b)) (nI b) S) (F := F) (n := nB w) _ (by omega) (fun f' b hb => ?_) (fun f' => ?_)
      · show g_M_giveAll_71 F (g_M_giveAll_46 F f) (f' + 1) _ _ _ S = _
        rw [s_M_giveAll_71]
        unfold b_M_giveAll_71
        rw [sB S s7, if_neg (nI_ge hb (by omega)), M_standsOn_s S (by omega), ob_some, s7, wo_5 w o (by omega), nI_add, nI_add, nI_add, fo_s]
        by_cases c : o b = -1
        · rw [if_pos c, if_pos c]
        · rw [if_neg c, if_neg c]
      · show g_M_giveAll_71 F (g_M_giveAll_46 F f) (f' + 1) _ _ _ S = _
        rw [s_M_giveAll_71]
        unfold b_M_giveAll_71
        rw [sB S s7, if_pos (nI_le (Nat.le_refl _) (by omega))]
        rfl
    rw [c1]
    -- kept
    have cp : ∀ T : mx_D, T 117 = wo w o → ∃ D', (∀ c, c ≠ 130 → D' c = T c) ∧ (∀ b, b < nB w → D' 130 b = o b) ∧ g_M_giveAll_131 F (g_M_giveAll_46 F f) F (nI y) (nI 0) T = Option.bind (g_M_nextGiving F D') (KG F y f) := fun T t7 => by
      obtain ⟨Z, ⟨z1, z2⟩, z3⟩ := lpk0 (σ := mx_D) (fun a s => (∀ c, c ≠ 130 → s c = T c) ∧ ∀ b, b < a → s 130 b = o b) (fun f' a s => g_M_giveAll_131 F (g_M_giveAll_46 F f) f' (nI y) (nI a) s) (fun s => Option.bind (g_M_nextGiving F s) (KG F y f)) (F := F) (n := nB w) (s := T) (by omega) ⟨fun _ _ => rfl, fun x hx => absurd hx (Nat.not_lt_zero x)⟩ (fun f' a s ha hI => by
        obtain ⟨i1, i2⟩ := hI
        have i7 : s 117 = wo w o := by rw [i1 117 (by decide), t7]
        show ∃ s', _ ∧ g_M_giveAll_131 F (g_M_giveAll_46 F f) (f' + 1) (nI y) (nI a) s = g_M_giveAll_131 F (g_M_giveAll_46 F f) f' (nI y) (nI (a + 1)) s'
        rw [s_M_giveAll_131]
        unfold b_M_giveAll_131
        rw [sB s i7, if_neg (nI_ge ha (by omega)), M_standsOn_s s (by omega), ob_some, i7, wo_5 w o (by omega), rk_in (show a < 5 by omega) (by decide), nI_clamp (by omega), nI_add]
        refine ⟨_, ⟨fun c hc => by rw [sD_nr _ _ _ hc, i1 c hc], fun b hb => ?_⟩, rfl⟩
        by_cases e : b = a
        · subst e
          rw [sD_eq]
        · rw [sD_nj _ _ _ e]
          exact i2 b (by omega)) (fun f' s hI => by
        have i7 : s 117 = wo w o := by rw [hI.1 117 (by decide), t7]
        show g_M_giveAll_131 F (g_M_giveAll_46 F f) (f' + 1) (nI y) (nI (nB w)) s = _
        rw [s_M_giveAll_131]
        unfold b_M_giveAll_131
        rw [sB s i7, if_pos (nI_le (Nat.le_refl _) (by omega))]
        rfl)
      exact ⟨Z, z1, z2, z3⟩
    have gl := gvn_le o (nB w)
    have keep : bs1 w (bst w A) o = some o → ∃ D', BS D0 D' w o (A ++ [o]) ∧ g_M_giveAll_131 F (g_M_giveAll_46 F f) F (nI y) (nI 0) (sD S 116 26 (nI (gvn w o))) = Option.bind (g_M_nextGiving F D') (KG F y f) := fun hb => by
      obtain ⟨Z, z1, z2, z3⟩ := cp (sD S 116 26 (nI (gvn w o))) (by rw [sD_nr _ _ _ (by decide), s7])
      refine ⟨Z, ⟨fun c q1 q2 q3 q4 => ?_, fun i q1 q2 => ?_, ?_, ?_, Or.inr ⟨o, ?_, ?_, z2⟩⟩, z3⟩
      · rw [z1 c q4, sD_nr _ _ _ q1, s1 c q1, g1 c q1 q2 q3 q4]
      · rw [z1 116 (by decide), sD_nj _ _ _ q1, s2 i q2, e116, h2 i q1 q2]
      · rw [z1 117 (by decide), sD_nr _ _ _ (by decide), s7]
      · rw [z1 116 (by decide), sD_nj _ _ _ (by decide), s3, List.length_append]
        rfl
      · rw [bst_snoc, hb]
      · rw [z1 116 (by decide), sD_eq]
    unfold b_M_giveAll_105
    rw [s26]
    rcases h5 with ⟨a1, a2⟩ | ⟨a, a1, a2, a3⟩
    · rw [if_pos a2]
      exact keep (by rw [a1]; rfl)
    · have ga := gvn_le a (nB w)
      have gaw : gvn w a ≤ nB w := ga
      have gow : gvn w o ≤ nB w := gl
      rw [a2, if_neg (nI_m1 (by omega))]
      have cmp : nI (gvn w o) < nI (gvn w a) ↔ gvn w o < gvn w a := by
        rw [iI_nI, iI_nI (gvn w a), iI_lt (by omega) (by omega) (by omega) (by omega)]
        omega
      by_cases c : gvn w o < gvn w a
      · rw [if_pos (cmp.mpr c)]
        exact keep (by rw [a1]; exact if_pos c)
      · rw [if_neg (fun z => c (cmp.mp z))]
        refine ⟨S, ⟨fun c q1 q2 q3 q4 => ?_, fun i q1 q2 => ?_, s7, ?_, Or.inr ⟨a, ?_, ?_, ?_⟩⟩, rfl⟩
        · rw [s1 c q1, g1 c q1 q2 q3 q4]
        · rw [s2 i q2, e116, h2 i q1 q2]
        · rw [s3, List.length_append]
          rfl
        · rw [bst_snoc, a1]
          exact if_neg c
        · rw [s26, a2]
        · rw [s130]
          exact a3
/-- the whole run over the rows of owners of the last k books -/
theorem M_run_s (hF : 1000 ≤ F) (hW : WF w) {y : Nat} (hy : y ≤ 30) : ∀ k f (o : UU) (A : List UU) (D : mx_D), k ≤ nB w → BS D0 D w o A → OOK w o → (∀ b, nB w - k ≤ b → b < nB w → o b = -1) → A.length + (gvl w k o).length < 2 ^ 31 → ∃ D', BS D0 D' w o (A ++ (gvl w k o).filter (LB w y)) ∧ g_M_giveAll_46 F (f + (gvl w k o).length) (nI y) D = Option.bind (g_M_nextGiving_10 F (F - k) (iI ((nB w : Int) - k - 1)) D') (KG F y f)
  | 0, f, o, A, D, _, hM, ho, _, hl => by
    obtain ⟨D', d1, d2⟩ := M_gmet_s hF hW hy ho hM hl f
    refine ⟨D', ?_, ?_⟩
    · have : (gvl w 0 o).filter (LB w y) = if LB w y o = true then [o] else [] := by
        show List.filter (LB w y) [o] = _
        rw [List.filter_cons, List.filter_nil]
      rw [this]
      exact d1
    · refine Eq.trans d2 ?_
      unfold g_M_nextGiving
      have e : nI (nB w) - nI 1 = iI ((nB w : Int) - (0 : Nat) - 1) := by
        rw [iI_nI, iI_nI 1, iI_sub]
        congr 1
      rw [d1.2.2.1, wo_n w o (by omega), wf_B hW, e, Nat.sub_zero]
  | k + 1, f, o, A, D, hk, hM, ho, hm, hl => by
    have h8 := wf_A8 hW
    have hB := wf_B5 hW
    obtain ⟨i, hi⟩ : ∃ i, i = nB w - (k + 1) := ⟨_, rfl⟩
    have hiB : i < nB w := by omega
    have eik : (nB w : Int) - k - 1 = (i : Int) := by omega
    have eik2 : (nB w : Int) - (k + 1 : Nat) - 1 = (i : Int) - 1 := by omega
    have hoi : o i = -1 := hm i (by omega) hiB
    have self : ∀ v : Int32, upd (upd o i v) i (-1) = o := fun v => by rw [upd_upd, ← hoi, upd_same]
    have fk : F - k = F - (k + 1) + 1 := by omega
    rw [gvl_s, ← hi, List.length_append] at hl
    rw [gvl_s, ← hi, List.length_append, List.filter_append]
    -- the next digit of book i
    have nx : ∀ (m : Nat) (X : mx_D) (A' : List UU) (v : Int32) (e : Nat), BS D0 X w (upd o i v) A' → v + nI 1 = nI e → g_M_nextGiving_10 F (m + 1) (iI ((nB w : Int) - k - 1)) X = g_M_nextGiving_22 F (g_M_nextGiving_10 F m) F (nI i) (nI e) X := fun m X A' v e hX he => by
      rw [eik, ← iI_nI, s_M_nextGiving_10]
      unfold b_M_nextGiving_10
      rw [if_neg (nI_pos (by omega)), M_standsOn_s X (by omega), ob_some, hX.2.2.1, wo_5 _ _ (by omega), upd_eq, he]
    have try_ : ∀ n e, e + n = nA w → ∀ j, n < j → ∀ (f : Nat) (A : List UU) (X : mx_D) (v : Int32), BS D0 X w (upd o i v) A → A.length + (fl (g1 (gvl w k) w o i) n e).length < 2 ^ 31 → ∃ D', BS D0 D' w o (A ++ (fl (g1 (gvl w k) w o i) n e).filter (LB w y)) ∧ Option.bind (g_M_nextGiving_22 F (g_M_nextGiving_10 F (F - (k + 1))) j (nI i) (nI e) X) (KG F y (f + (fl (g1 (gvl w k) w o i) n e).length)) = Option.bind (g_M_nextGiving_10 F (F - (k + 1)) (iI ((nB w : Int) - (k + 1 : Nat) - 1)) D') (KG F y f) := by
      intro n
      induction n with
      | zero =>
        intro e he j hj f A X v hX hl'
        obtain ⟨j, rfl⟩ : ∃ g, j = g + 1 := ⟨j - 1, by omega⟩
        obtain rfl : e = nA w := by omega
        have hset := BS_set hX (show i < 5 by omega) (-1)
        rw [self v] at hset
        have e4 : X 117 4 = nI (nA w) := by rw [hX.2.2.1, wo_n w _ (by omega), wf_A hW]
        refine ⟨sD X 117 (96 + 2 * i + 1) (-1), ?_, ?_⟩
        · have : A ++ (fl (g1 (gvl w k) w o i) 0 (nA w)).filter (LB w y) = A := List.append_nil A
          rw [this]
          exact hset
        · rw [s_M_nextGiving_22]
          unfold b_M_nextGiving_22 b_M_nextGiving_46
          have e9 : nI i + (-1 : Int32) = iI ((i : Int) - 1) := by
            rw [iI_nI, iI_m1, iI_add]
            rfl
          rw [e4, if_pos (nI_le (Nat.le_refl _) (by omega)), if_pos (nI_le (Nat.le_refl _) (by omega)), M_setSt_s (by omega), ob_some, eik2, e9]
          rfl
      | succ n ih =>
        intro e he j hj f A X v hX hl'
        obtain ⟨j, rfl⟩ : ∃ g, j = g + 1 := ⟨j - 1, by omega⟩
        have heA : e < nA w := by omega
        have x7 := hX.2.2.1
        have e4 : X 117 4 = nI (nA w) := by rw [x7, wo_n w _ (by omega), wf_A hW]
        rw [s_M_nextGiving_22]
        unfold b_M_nextGiving_22
        rw [e4, if_neg (nI_ge heA (by omega)), M_sits_s X (by omega), ob_some, x7, st_wo h8 _ heA, b01_if, nI_add]
        rw [fl_s, List.length_append] at hl'
        rw [fl_s, List.length_append, List.filter_append]
        by_cases c : st w e = true
        · rw [if_pos c]
          have e0 : g1 (gvl w k) w o i e = gvl w k (upd o i (nI e)) := if_pos c
          rw [e0] at hl' ⊢
          unfold b_M_nextGiving_46
          rw [e4, if_neg (nI_ge heA (by omega)), M_setSt_s (by omega), ob_some, ob_some, KG_1]
          have hset := BS_set hX (show i < 5 by omega) (nI e)
          rw [upd_upd] at hset
          have hfl := List.length_filter_le (LB w y) (gvl w k (upd o i (nI e)))
          obtain ⟨Y, y1, y2⟩ := M_run_s hF hW hy k (f + (fl (g1 (gvl w k) w o i) n (e + 1)).length) (upd o i (nI e)) A _ (by omega) hset (OOK_upd ho heA) (fun b q1 q2 => by rw [upd_ne _ _ (by omega)]; exact hm b (by omega) q2) (by omega)
          obtain ⟨Z, z1, z2⟩ := ih (e + 1) (by omega) F (by omega) f (A ++ (gvl w k (upd o i (nI e))).filter (LB w y)) Y (nI e) y1 (by rw [List.length_append]; omega)
          refine ⟨Z, by rw [← List.append_assoc]; exact z1, ?_⟩
          rw [show f + ((gvl w k (upd o i (nI e))).length + (fl (g1 (gvl w k) w o i) n (e + 1)).length) = f + (fl (g1 (gvl w k) w o i) n (e + 1)).length + (gvl w k (upd o i (nI e))).length by omega, y2, fk, nx _ Y _ (nI e) (e + 1) y1 (nI_add e 1)]
          exact z2
        · rw [if_neg c]
          have e0 : g1 (gvl w k) w o i e = [] := if_neg c
          rw [e0] at hl' ⊢
          rw [List.filter_nil, List.nil_append, List.length_nil, Nat.zero_add]
          exact ih (e + 1) (by omega) j (by omega) f A X v hX (by rw [List.length_nil] at hl'; omega)
    have hfl := List.length_filter_le (LB w y) (gvl w k o)
    obtain ⟨X, x1, x2⟩ := M_run_s hF hW hy k (f + (fl (g1 (gvl w k) w o i) (nA w) 0).length) o A D (by omega) hM ho (fun b q1 q2 => hm b (by omega) q2) (by omega)
    have x1' : BS D0 X w (upd o i (-1)) (A ++ (gvl w k o).filter (LB w y)) := by
      rw [← hoi, upd_same]
      exact x1
    obtain ⟨Z, z1, z2⟩ := try_ (nA w) 0 (Nat.zero_add _) F (by omega) f (A ++ (gvl w k o).filter (LB w y)) X (-1) x1' (by rw [List.length_append]; omega)
    refine ⟨Z, by rw [← List.append_assoc]; exact z1, ?_⟩
    rw [show f + ((gvl w k o).length + (fl (g1 (gvl w k) w o i) (nA w) 0).length) = f + (fl (g1 (gvl w k) w o i) (nA w) 0).length + (gvl w k o).length by omega, x2, fk, nx _ X _ (-1) 0 x1' (by decide)]
    exact z2
/-! all of it -/
def ob (w : W_) (a : Nat) : UU := fun b => if b < a then -1 else w (96 + 2 * b + 1)
def GL (w : W_) (y : Nat) : List UU := (gvl w (nB w) (ob w (nB w))).filter (LB w y)
theorem OOK_ob (w : W_) : OOK w (ob w (nB w)) := fun b hb => Or.inl (if_pos hb)
theorem GL_len (hW : WF w) (y : Nat) : (GL w y).length ≤ 59049 ∧ (gvl w (nB w) (ob w (nB w))).length ≤ 59049 := by
  have hB := wf_B5 hW
  have h1 := gvl_len hW (nB w) (ob w (nB w))
  have h2 : 9 ^ nB w ≤ 9 ^ 5 := Nat.pow_le_pow_right (by decide) hB
  have h3 : (9 : Nat) ^ 5 = 59049 := by decide
  have h4 := List.length_filter_le (LB w y) (gvl w (nB w) (ob w (nB w)))
  unfold GL
  omega
theorem GL_mem (hW : WF w) (y : Nat) (q : UU) : q ∈ GL w y ↔ ((∀ b, nB w ≤ b → q b = ob w (nB w) b) ∧ ∀ b, b < nB w → q b = -1 ∨ ∃ x, x < nA w ∧ st w x = true ∧ q b = nI x) ∧ LB w y q = true := by
  unfold GL
  rw [List.mem_filter, gvl_mem hW (nB w) (ob w (nB w)) q (Nat.le_refl _) (fun b _ h => if_pos h)]
  constructor
  · rintro ⟨⟨h1, h2⟩, h3⟩
    exact ⟨⟨fun b hb => h1 b (by omega), fun b hb => h2 b (by omega) hb⟩, h3⟩
  · rintro ⟨⟨h1, h2⟩, h3⟩
    exact ⟨⟨fun b hb => h1 b (by omega), fun b _ hb => h2 b hb⟩, h3⟩
theorem GL_pw (hW : WF w) (y : Nat) : (GL w y).Pairwise (fun a b => rwN w a < rwN w b) := List.Pairwise.filter _ (gvl_pw hW (nB w) (ob w (nB w)) (Nat.le_refl _) (fun b _ h => if_pos h) (OOK_ob w))
theorem M_giveAll_s (hF : 100000 ≤ F) (hW : WF (D 117)) {y : Nat} (hy : y ≤ 30) : ∃ D', g_M_giveAll F (nI y) D = some D' ∧ (∀ c, c ≠ 116 → c ≠ 123 → c ≠ 129 → c ≠ 130 → D' c = D c) ∧ (∀ i, i ≠ 26 → i ≠ 27 → D' 116 i = D 116 i) ∧ D' 116 27 = nI (GL (D 117) y).length ∧ ((bst (D 117) (GL (D 117) y) = none ∧ D' 116 26 = -1) ∨ ∃ a, bst (D 117) (GL (D 117) y) = some a ∧ D' 116 26 = nI (gvn (D 117) a) ∧ ∀ b, b < nB (D 117) → D' 130 b = a b) := by
  generalize hw : D 117 = w at hW ⊢
  have hB := wf_B5 hW
  unfold g_M_giveAll
  have o1 : ∀ c, c ≠ 116 → sD (sD D 116 26 (-1)) 116 27 (nI 0) c = D c := fun c hc => by rw [sD_nr _ _ _ hc, sD_nr _ _ _ hc]
  have o2 : ∀ i, i ≠ 26 → i ≠ 27 → sD (sD D 116 26 (-1)) 116 27 (nI 0) 116 i = D 116 i := fun i q1 q2 => by rw [sD_nj _ _ _ q2, sD_nj _ _ _ q1]
  have o3 : sD (sD D 116 26 (-1)) 116 27 (nI 0) 116 27 = nI 0 := sD_eq _ _ _ _
  have o4 : sD (sD D 116 26 (-1)) 116 27 (nI 0) 116 26 = -1 := by rw [sD_nj _ _ _ (by decide), sD_eq]
  generalize sD (sD D 116 26 (-1)) 116 27 (nI 0) = O at o1 o2 o3 o4 ⊢
  -- nobody has a book
  obtain ⟨S, ⟨s1, s2, s3⟩, e1⟩ := lpk0 (σ := mx_D) (fun a s => (∀ c, c ≠ 117 → c ≠ 129 → s c = O c) ∧ s 117 = wo w (ob w a) ∧ ∀ b, b < a → s 129 b = w (96 + 2 * b + 1)) (fun f a s => g_M_giveAll_12 F f (nI y) (nI a) s) (fun s => g_M_giveAll_46 F F (nI y) s) (F := F) (n := nB w) (s := O) (by omega) ⟨fun _ _ _ => rfl, by
      rw [o1 117 (by decide), hw]
      have : ob w 0 = fun b => w (96 + 2 * b + 1) := by
        funext b
        unfold ob
        rw [if_neg (Nat.not_lt_zero b)]
      rw [this, wo_self], fun x hx => absurd hx (Nat.not_lt_zero x)⟩ (fun f a s ha hI => by
    obtain ⟨i1, i2, i3⟩ := hI
    show ∃ s', _ ∧ g_M_giveAll_12 F (f + 1) (nI y) (nI a) s = g_M_giveAll_12 F f (nI y) (nI (a + 1)) s'
    rw [s_M_giveAll_12]
    unfold b_M_giveAll_12
    rw [i2, wo_n w _ (by omega), wf_B hW, if_neg (nI_ge ha (by omega)), M_standsOn_s s (by omega), ob_some, i2, wo_5 w _ (by omega), rk_in (show a < 5 by omega) (by decide), nI_clamp (by omega), M_setSt_s (by omega), ob_some, nI_add]
    have oa : ob w a a = w (96 + 2 * a + 1) := if_neg (Nat.lt_irrefl a)
    refine ⟨_, ⟨fun c q1 q2 => ?_, ?_, fun x hx => ?_⟩, rfl⟩
    · rw [sD_nr _ _ _ q1, sD_nr _ _ _ q2, i1 c q1 q2]
    · rw [sD_row, sD_nr _ _ _ (by decide), i2, wo_upd w _ (by omega)]
      congr 1
      funext x
      by_cases e : x = a
      · subst e
        rw [upd_eq]
        unfold ob
        rw [if_pos (Nat.lt_succ_self x)]
      · rw [upd_ne _ _ e]
        unfold ob
        by_cases c : x < a
        · rw [if_pos c, if_pos (by omega)]
        · rw [if_neg c, if_neg (by omega)]
    · rw [sD_ne _ _ _ _ (by decide)]
      by_cases e : x = a
      · subst e
        rw [sD_eq, oa]
      · rw [sD_nj _ _ _ e]
        exact i3 x (by omega)) (fun f s hI => by
    show g_M_giveAll_12 F (f + 1) (nI y) (nI (nB w)) s = _
    rw [s_M_giveAll_12]
    unfold b_M_giveAll_12
    rw [hI.2.1, wo_n w _ (by omega), wf_B hW, if_pos (nI_le (Nat.le_refl _) (by omega))])
  have e1' : g_M_giveAll_12 F F (nI y) (nI 0) O = g_M_giveAll_46 F F (nI y) S := e1
  rw [e1']
  have e116 : S 116 = O 116 := s1 116 (by decide) (by decide)
  have hM : BS S S w (ob w (nB w)) [] := ⟨fun _ _ _ _ _ => rfl, fun _ _ _ => rfl, s2, by rw [e116, o3]; rfl, Or.inl ⟨rfl, by rw [e116, o4]⟩⟩
  obtain ⟨hl1, hl2⟩ := GL_len hW y
  obtain ⟨X, x1, x2⟩ := M_run_s (D0 := S) (F := F) (by omega) hW hy (nB w) (F - (gvl w (nB w) (ob w (nB w))).length) (ob w (nB w)) [] S (Nat.le_refl _) hM (OOK_ob w) (fun b _ h => if_pos h) (by rw [List.length_nil]; omega)
  rw [show F - (gvl w (nB w) (ob w (nB w))).length + (gvl w (nB w) (ob w (nB w))).length = F by omega] at x2
  rw [x2]
  obtain ⟨g, hg⟩ : ∃ g, F - nB w = g + 1 := ⟨F - nB w - 1, by omega⟩
  rw [hg, s_M_nextGiving_10]
  unfold b_M_nextGiving_10
  rw [show (nB w : Int) - (nB w : Nat) - 1 = -1 by omega, if_pos (show iI (-1) < 0 by decide), ob_some, KG_0]
  have x1' : BS S X w (ob w (nB w)) (GL w y) := x1
  obtain ⟨b1, b2, b3, b4, b5⟩ := x1'
  have x129 : ∀ b, b < nB w → X 129 b = w (96 + 2 * b + 1) := fun b hb => by rw [b1 129 (by decide) (by decide) (by decide) (by decide), s3 b hb]
  obtain ⟨r, r1, r2, r3⟩ := lp0 (F := F) (s := X) (fun a (t : mx_D) => (∀ c, c ≠ 117 → t c = X c) ∧ t 117 = wo w (fun b => if b < a then w (96 + 2 * b + 1) else ob w (nB w) b)) (fun (r : mx_D) => (∀ c, c ≠ 117 → r c = X c) ∧ r 117 = w) (fun f a t => g_M_giveAll_168 F f (nI a) t) (n := nB w) (by omega) ⟨fun _ _ => rfl, by
      rw [b3]
      congr 1⟩ (fun f a t ha hI => by
    obtain ⟨i1, i2⟩ := hI
    show ∃ s', _ ∧ g_M_giveAll_168 F (f + 1) (nI a) t = g_M_giveAll_168 F f (nI (a + 1)) s'
    rw [s_M_giveAll_168]
    unfold b_M_giveAll_168
    rw [i2, wo_n w _ (by omega), wf_B hW, if_neg (nI_ge ha (by omega)), rk_in (show a < 5 by omega) (by decide), nI_clamp (by omega), M_setSt_s (by omega), ob_some, nI_add]
    refine ⟨_, ⟨fun c q1 => by rw [sD_nr _ _ _ q1, i1 c q1], ?_⟩, rfl⟩
    rw [sD_row, i2, wo_upd w _ (by omega), i1 129 (by decide), x129 a ha]
    congr 1
    funext x
    by_cases e : x = a
    · subst e
      rw [upd_eq, if_pos (Nat.lt_succ_self x)]
    · rw [upd_ne _ _ e]
      by_cases c : x < a
      · rw [if_pos c, if_pos (by omega)]
      · rw [if_neg c, if_neg (by omega)]) (fun f t hI => by
    obtain ⟨i1, i2⟩ := hI
    refine ⟨t, ?_, i1, ?_⟩
    · show g_M_giveAll_168 F (f + 1) (nI (nB w)) t = _
      rw [s_M_giveAll_168]
      unfold b_M_giveAll_168
      rw [i2, wo_n w _ (by omega), wf_B hW, if_pos (nI_le (Nat.le_refl _) (by omega))]
    · rw [i2]
      have : (fun b => if b < nB w then w (96 + 2 * b + 1) else ob w (nB w) b) = fun b => w (96 + 2 * b + 1) := by
        funext b
        by_cases c : b < nB w
        · rw [if_pos c]
        · rw [if_neg c]
          unfold ob
          rw [if_neg c]
      rw [this, wo_self])
  have r1' : g_M_giveAll_168 F F (nI 0) X = some r := r1
  rw [r1']
  refine ⟨r, rfl, fun c q1 q2 q3 q4 => ?_, fun i q1 q2 => ?_, ?_, ?_⟩
  · by_cases e : c = 117
    · rw [e, r3, hw]
    · rw [r2 c e, b1 c q1 e q2 q4, s1 c e q3, o1 c q1]
  · rw [r2 116 (by decide), b2 i q1 q2, e116, o2 i q1 q2]
  · rw [r2 116 (by decide), b4]
  · rw [r2 116 (by decide), r2 130 (by decide)]
    exact b5
end BM
