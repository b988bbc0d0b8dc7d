/-! ===== books: the class's calls beside the reference's ===== -/
section BO
variable {F : Nat} {D : mx_D} {E : mx_E} {w : W_}
theorem fill_49 (hF : 100 ≤ F) (v : Int32) (D : mx_D) : ∃ D', g_Arrays_fill_49 F v D = some D' ∧ (∀ c, c ≠ 49 → D' c = D c) ∧ ∀ j, j < 4 → D' 49 j = v := by
  unfold g_Arrays_fill_49
  refine lp0 (F := F) (fun a (s : mx_D) => (∀ c, c ≠ 49 → s c = D c) ∧ ∀ j, j < a → s 49 j = v) (fun D' => (∀ c, c ≠ 49 → D' c = D c) ∧ ∀ j, j < 4 → D' 49 j = v) (fun f a s => g_Arrays_fill_49_5 F f v (nI a) (nI 4) s) (n := 4) (by omega) ⟨fun _ _ => rfl, fun x hx => absurd hx (Nat.not_lt_zero x)⟩ (fun f a s ha hI => ?_) (fun f s hI => ?_)
  · refine ⟨sD s 49 a v, ⟨fun c hc => ?_, fun j hj => ?_⟩, ?_⟩
    · rw [sD_nr _ _ _ hc, hI.1 c hc]
    · by_cases q : j = a
      · subst q
        rw [sD_eq]
      · rw [sD_nj _ _ _ q, hI.2 j (by omega)]
    · rw [s_Arrays_fill_49_5]
      unfold b_Arrays_fill_49_5
      rw [if_neg (nI_ge ha (by decide)), rk_in ha (by decide), nI_clamp (by omega), nI_add]
  · refine ⟨s, ?_, hI⟩
    rw [s_Arrays_fill_49_5]
    unfold b_Arrays_fill_49_5
    rw [if_pos (nI_le (Nat.le_refl _) (by decide))]
theorem fill_50 (hF : 100 ≤ F) (v : Int32) (D : mx_D) : ∃ D', g_Arrays_fill_50 F v D = some D' ∧ (∀ c, c ≠ 50 → D' c = D c) ∧ ∀ j, j < 4 → D' 50 j = v := by
  unfold g_Arrays_fill_50
  refine lp0 (F := F) (fun a (s : mx_D) => (∀ c, c ≠ 50 → s c = D c) ∧ ∀ j, j < a → s 50 j = v) (fun D' => (∀ c, c ≠ 50 → D' c = D c) ∧ ∀ j, j < 4 → D' 50 j = v) (fun f a s => g_Arrays_fill_50_5 F f v (nI a) (nI 4) s) (n := 4) (by omega) ⟨fun _ _ => rfl, fun x hx => absurd hx (Nat.not_lt_zero x)⟩ (fun f a s ha hI => ?_) (fun f s hI => ?_)
  · refine ⟨sD s 50 a v, ⟨fun c hc => ?_, fun j hj => ?_⟩, ?_⟩
    · rw [sD_nr _ _ _ hc, hI.1 c hc]
    · by_cases q : j = a
      · subst q
        rw [sD_eq]
      · rw [sD_nj _ _ _ q, hI.2 j (by omega)]
    · rw [s_Arrays_fill_50_5]
      unfold b_Arrays_fill_50_5
      rw [if_neg (nI_ge ha (by decide)), rk_in ha (by decide), nI_clamp (by omega), nI_add]
  · refine ⟨s, ?_, hI⟩
    rw [s_Arrays_fill_50_5]
    unfold b_Arrays_fill_50_5
    rw [if_pos (nI_le (Nat.le_refl _) (by decide))]
theorem wt_nI : ∀ b, b < 5 → kq_wt b = nI (wtN b) := by decide +kernel
theorem X_bbegin_s (hF : 1000 ≤ F) (hC : CC D w) (hW : WF w) (y : Nat) : ∃ D', g_BookSearch_begin F (nI y) D = some D' ∧ (∀ c, c < 45 ∨ 50 < c → D' c = D c) ∧ XT w y D' ∧ XB w D' [] ∧ GB D' (fun _ => 10000) (fun _ => -10000) := by
  have h8 := wf_A8 hW
  have hB := wf_B5 hW
  unfold g_BookSearch_begin
  have o1 : ∀ c, c ≠ 45 → sD (sD D 45 0 (nI 0)) 45 7 (-1) c = D c := fun c hc => by rw [sD_nr _ _ _ hc, sD_nr _ _ _ hc]
  have o2 : sD (sD D 45 0 (nI 0)) 45 7 (-1) 45 7 = -1 := sD_eq _ _ _ _
  have o3 : sD (sD D 45 0 (nI 0)) 45 7 (-1) 45 0 = nI 0 := by rw [sD_nj _ _ _ (by decide), sD_eq]
  generalize sD (sD D 45 0 (nI 0)) 45 7 (-1) = O at o1 o2 o3 ⊢
  obtain ⟨A, ⟨a1, a2⟩, e1⟩ := lpk0 (σ := mx_D) (fun a s => (∀ c, c ≠ 46 → s c = O c) ∧ ∀ x, x < a → s 46 x = iI (bb w y x)) (fun f a s => g_BookSearch_begin_12 F f (nI y) (nI a) s) (fun s => g_BookSearch_begin_58 F F (nI 0) s) (F := F) (n := nA w) (s := O) (by omega) ⟨fun _ _ => rfl, fun x hx => absurd hx (Nat.not_lt_zero x)⟩ (fun f a s ha hI => by
    obtain ⟨i1, i2⟩ := hI
    have cS : CC s w := CC_of hC (fun c hc => by rw [i1 c (by omega), o1 c (by omega)])
    show ∃ s', _ ∧ g_BookSearch_begin_12 F (f + 1) (nI y) (nI a) s = g_BookSearch_begin_12 F f (nI y) (nI (a + 1)) s'
    rw [s_BookSearch_begin_12]
    unfold b_BookSearch_begin_12
    rw [c_24 cS, wf_A hW, if_neg (nI_ge ha (by omega)), C_highOf_s (by omega) cS hW ha, ob_some, C_bookHigh_s (by omega) cS hW, ob_some, rk_in (show a < 8 by omega) (by decide), nI_clamp (by omega), iI_sub, nI_add]
    refine ⟨_, ⟨fun c hc => by rw [sD_nr _ _ _ hc, i1 c hc], fun x hx => ?_⟩, rfl⟩
    by_cases e : x = a
    · subst e
      rw [sD_eq]
      rfl
    · rw [sD_nj _ _ _ e]
      exact i2 x (by omega)) (fun f s hI => by
    show g_BookSearch_begin_12 F (f + 1) (nI y) (nI (nA w)) s = _
    have cS : CC s w := CC_of hC (fun c hc => by rw [hI.1 c (by omega), o1 c (by omega)])
    rw [s_BookSearch_begin_12]
    unfold b_BookSearch_begin_12
    rw [c_24 cS, wf_A hW, if_pos (nI_le (Nat.le_refl _) (by omega))])
  have e1' : g_BookSearch_begin_12 F F (nI y) (nI 0) O = g_BookSearch_begin_58 F F (nI 0) A := e1
  rw [e1']
  have hAC : ∀ c, c ≠ 45 → c ≠ 46 → A c = D c := fun c q1 q2 => by rw [a1 c q2, o1 c q1]
  obtain ⟨r, r1, r2, r3, r4⟩ := lp0 (F := F) (s := A) (fun a (s : mx_D) => (∀ c, c ≠ 47 → c ≠ 48 → s c = A c) ∧ ∀ T, T < a → s 47 T = iI (sHi w T) ∧ s 48 T = nI (sWt w T)) (fun (r : mx_D) => (∀ c, c ≠ 47 → c ≠ 48 → c ≠ 49 → c ≠ 50 → r c = A c) ∧ (∀ T, T < 32 → r 47 T = iI (sHi w T) ∧ r 48 T = nI (sWt w T)) ∧ GB r (fun _ => 10000) (fun _ => -10000)) (fun f a s => g_BookSearch_begin_58 F f (nI a) s) (n := 32) (by omega) ⟨fun _ _ _ => rfl, fun x hx => absurd hx (Nat.not_lt_zero x)⟩ (fun f a s ha hI => by
    obtain ⟨i1, i2⟩ := hI
    have cS : CC s w := CC_of hC (fun c hc => by rw [i1 c (by omega) (by omega), hAC c (by omega) (by omega)])
    show ∃ s', _ ∧ g_BookSearch_begin_58 F (f + 1) (nI a) s = g_BookSearch_begin_58 F f (nI (a + 1)) s'
    rw [s_BookSearch_begin_58]
    unfold b_BookSearch_begin_58
    rw [if_neg (nI_ge ha (by decide)), rk_in ha (by decide), rk_in ha (by decide), nI_clamp (by omega)]
    obtain ⟨t, ⟨t1, t2, t3, t4⟩, e2⟩ := lpk0 (σ := mx_D) (fun b t => (∀ c, c ≠ 47 → c ≠ 48 → t c = s c) ∧ (∀ T, T ≠ a → t 47 T = s 47 T ∧ t 48 T = s 48 T) ∧ t 47 a = iI (fo (fun b s => s + (if a.testBit b = true then ti w (96 + 2 * b) else 0)) 0 b) ∧ t 48 a = nI (fo (fun b s => s + (if a.testBit b = true then wtN b else 0)) 0 b)) (fun f' b t => g_BookSearch_begin_80 F (g_BookSearch_begin_58 F f) f' (nI a) (nI b) t) (fun t => g_BookSearch_begin_58 F f (nI (a + 1)) t) (F := F) (n := nB w) (s := sD (sD s 47 a (nI 0)) 48 a (nI 0)) (by omega) ⟨fun c q1 q2 => by rw [sD_nr _ _ _ q2, sD_nr _ _ _ q1], fun T hT => ⟨by rw [sD_ne _ _ _ _ (by decide), sD_nj _ _ _ hT], by rw [sD_nj _ _ _ hT, sD_ne _ _ _ _ (by decide)]⟩, by rw [sD_ne _ _ _ _ (by decide), sD_eq]; rfl, by rw [sD_eq]; rfl⟩ (fun f' b t hb hJ => by
      obtain ⟨j1, j2, j3, j4⟩ := hJ
      have cT : CC t w := CC_of cS (fun c hc => j1 c (by omega) (by omega))
      show ∃ s', _ ∧ g_BookSearch_begin_80 F (g_BookSearch_begin_58 F f) (f' + 1) (nI a) (nI b) t = g_BookSearch_begin_80 F (g_BookSearch_begin_58 F f) f' (nI a) (nI (b + 1)) s'
      rw [s_BookSearch_begin_80]
      unfold b_BookSearch_begin_80
      rw [c_12 cT, wf_B hW, if_neg (nI_ge hb (by omega)), nb_bit (by omega) (by omega), nI_add]
      cases hbit : a.testBit b
      · rw [if_neg (show ¬ false = true by decide), if_pos (show nI 0 = 0 from rfl)]
        refine ⟨t, ⟨j1, j2, ?_, ?_⟩, rfl⟩
        · rw [fo_s, hbit, if_neg (show ¬ false = true by decide), Int.add_zero]
          exact j3
        · rw [fo_s, hbit, if_neg (show ¬ false = true by decide), Nat.add_zero]
          exact j4
      · rw [if_pos rfl, if_neg (show ¬ nI 1 = 0 by decide)]
        simp (disch := omega) only [rk_in, nI_clamp]
        rw [c_32 cT hb, wt_nI b (by omega), sD_ne _ _ _ _ (by decide), j3, j4, ti_at w (96 + 2 * b), iI_add, nI_add]
        refine ⟨_, ⟨fun c q1 q2 => by rw [sD_nr _ _ _ q2, sD_nr _ _ _ q1, j1 c q1 q2], fun T hT => ⟨?_, ?_⟩, ?_, ?_⟩, rfl⟩
        · rw [sD_ne _ _ _ _ (by decide), sD_nj _ _ _ hT]
          exact (j2 T hT).1
        · rw [sD_nj _ _ _ hT, sD_ne _ _ _ _ (by decide)]
          exact (j2 T hT).2
        · rw [sD_ne _ _ _ _ (by decide), sD_eq, fo_s, hbit, if_pos rfl]
        · rw [sD_eq, fo_s, hbit, if_pos rfl]) (fun f' t hJ => by
      have cT : CC t w := CC_of cS (fun c hc => hJ.1 c (by omega) (by omega))
      show g_BookSearch_begin_80 F (g_BookSearch_begin_58 F f) (f' + 1) (nI a) (nI (nB w)) t = _
      rw [s_BookSearch_begin_80]
      unfold b_BookSearch_begin_80
      rw [c_12 cT, wf_B hW, if_pos (nI_le (Nat.le_refl _) (by omega)), nI_add])
    have e2' : g_BookSearch_begin_80 F (g_BookSearch_begin_58 F f) F (nI a) (nI 0) (sD (sD s 47 a (nI 0)) 48 a (nI 0)) = g_BookSearch_begin_58 F f (nI (a + 1)) t := e2
    rw [e2']
    refine ⟨t, ⟨fun c q1 q2 => by rw [t1 c q1 q2, i1 c q1 q2], fun T hT => ?_⟩, rfl⟩
    by_cases e : T = a
    · subst e
      exact ⟨t3, t4⟩
    · rw [(t2 T e).1, (t2 T e).2]
      exact i2 T (by omega)) (fun f s hI => by
    obtain ⟨i1, i2⟩ := hI
    obtain ⟨C, c1, c2, c3⟩ := fill_49 (F := F) (by omega) (nI 10000) s
    obtain ⟨G, g1, g2, g3⟩ := fill_50 (F := F) (by omega) (-10000) C
    refine ⟨G, ?_, fun c q1 q2 q3 q4 => ?_, fun T hT => ?_, fun g hg => ⟨?_, ?_⟩⟩
    · show g_BookSearch_begin_58 F (f + 1) (nI 32) s = _
      rw [s_BookSearch_begin_58]
      unfold b_BookSearch_begin_58
      rw [if_pos (nI_le (Nat.le_refl _) (by decide)), c1, ob_some, g1, ob_some]
    · rw [g2 c q4, c2 c q3, i1 c q1 q2]
    · rw [g2 47 (by decide), c2 47 (by decide), g2 48 (by decide), c2 48 (by decide)]
      exact i2 T hT
    · rw [g2 49 (by decide), c3 g hg, iI_nI]
      rfl
    · rw [g3 g hg]
      rfl)
  have r1' : g_BookSearch_begin_58 F F (nI 0) A = some r := r1
  rw [r1']
  have r45 : r 45 = O 45 := by rw [r2 45 (by decide) (by decide) (by decide) (by decide), a1 45 (by decide)]
  refine ⟨r, rfl, fun c hc => ?_, ⟨fun x hx => ?_, r3⟩, ⟨?_, ?_, show (-1 : Int) ≤ -1 from Int.le_refl _, show (-1 : Int) < 400000 by decide⟩, r4⟩
  · rw [r2 c (by omega) (by omega) (by omega) (by omega), hAC c (by omega) (by omega)]
  · rw [r2 46 (by decide) (by decide) (by decide) (by decide), a2 x hx]
  · rw [r45, o3]
    rfl
  · rw [r45, o2]
    rfl
/-! all of the class's ways, no more than m given -/
def CL (w : W_) (y m : Nat) : List UU := gsl w y (nA w) (2 ^ nB w - 1) m (ob w (nB w))
theorem full_32 (hW : WF w) : 2 ^ nB w - 1 < 32 := by
  have hB := wf_B5 hW
  have h2 : 2 ^ nB w ≤ 2 ^ 5 := Nat.pow_le_pow_right (by decide) hB
  have h3 : (2 : Nat) ^ 5 = 32 := by decide
  omega
theorem full_bit (b : Nat) : (2 ^ nB w - 1).testBit b = decide (b < nB w) := Nat.testBit_two_pow_sub_one _ _
theorem FB_ob (w : W_) : FB w (ob w (nB w)) (2 ^ nB w - 1) := fun b hb => by
  rw [full_bit, decide_eq_true_eq] at hb
  exact ⟨hb, if_pos hb⟩
theorem kyN_ob (w : W_) : kyN w (ob w (nB w)) = 0 := by
  have h0 : ∀ b, dgt w (ob w (nB w)) b = 0 := fun b => by
    by_cases c : b < nB w
    · exact dgt_m (if_pos c)
    · unfold dgt
      rw [if_neg c]
  have h1 : ∀ n, n ≤ nB w → fo (fun b s => s + (if ob w (nB w) b = -1 then 0 else 1)) 0 n = 0 := by
    intro n
    induction n with
    | zero => intro _; rfl
    | succ n ih =>
      intro hn
      rw [fo_s, ih (by omega), if_pos (show ob w (nB w) n = -1 from if_pos (by omega))]
  unfold kyN rwN gvn
  rw [h1 _ (Nat.le_refl _), h0, h0, h0, h0, h0]
theorem cq_gvn (hW : WF w) (q : UU) : cq (2 ^ nB w - 1) q = gvn w q := by
  have hB := wf_B5 hW
  have bit : ∀ b, ((2 ^ nB w - 1) &&& mk (fun b => decide (¬ q b = -1)) 5).testBit b = true ↔ b < nB w ∧ ¬ q b = -1 := fun b => by
    rw [Nat.testBit_and, Bool.and_eq_true, full_bit, decide_eq_true_eq]
    constructor
    · rintro ⟨h1, h2⟩
      exact ⟨h1, (gb5 (by omega)).mp h2⟩
    · rintro ⟨h1, h2⟩
      exact ⟨h1, (gb5 (by omega)).mpr h2⟩
  unfold cq gvn
  generalize (2 ^ nB w - 1) &&& mk (fun b => decide (¬ q b = -1)) 5 = M at bit ⊢
  have h := fo_more (s := fun b s => s + (if M.testBit b = true then 1 else 0)) (z := 0) (n := nB w) (8 - nB w) (fun i a h1 h2 => by
    have : ¬ M.testBit i = true := fun z => by
      have := ((bit i).mp z).1
      omega
    rw [if_neg this, Nat.add_zero])
  rw [show nB w + (8 - nB w) = 8 by omega] at h
  have e : bc M = fo (fun b s => s + (if M.testBit b = true then 1 else 0)) 0 (nB w) := h
  rw [e]
  refine fo_c _ (fun b s hb => ?_)
  by_cases c : q b = -1
  · rw [if_pos c, if_neg (fun z => ((bit b).mp z).2 c)]
  · rw [if_neg c, if_pos ((bit b).mpr ⟨hb, c⟩)]
theorem CL_mem (hW : WF w) (y m : Nat) (q : UU) : q ∈ CL w y m ↔ q ∈ GL w y ∧ gvn w q ≤ m := by
  unfold CL
  rw [gsl_mem hW y (nA w) (2 ^ nB w - 1) m (ob w (nB w)) q (Nat.le_refl _) (full_32 hW) (fun b hb => (FB_ob w b hb).2), GL_mem hW, cq_gvn hW]
  constructor
  · rintro ⟨h1, h2, h3, h4⟩
    refine ⟨⟨⟨fun b hb => h1 b ?_, fun b hb => ?_⟩, h4⟩, h3⟩
    · rw [full_bit, decide_eq_false_iff_not]
      omega
    · exact (h2 b (by rw [full_bit, decide_eq_true_eq]; exact hb)).imp id (fun ⟨x, _, x2⟩ => ⟨x, x2⟩)
  · rintro ⟨⟨⟨h1, h2⟩, h4⟩, h3⟩
    refine ⟨fun b hb => h1 b ?_, fun b hb => ?_, h3, h4⟩
    · rw [full_bit, decide_eq_false_iff_not] at hb
      omega
    · rw [full_bit, decide_eq_true_eq] at hb
      exact (h2 b hb).imp id (fun ⟨x, x2⟩ => ⟨x, by omega, x2⟩)
theorem CL_nd (hW : WF w) (y m : Nat) : (CL w y m).Nodup := gsl_nd hW y (nA w) (2 ^ nB w - 1) m (ob w (nB w)) (Nat.le_refl _) (full_32 hW) (fun b hb => (FB_ob w b hb).2)
theorem GL_nd (hW : WF w) (y : Nat) : (GL w y).Nodup := List.Pairwise.imp (fun {a b} h e => by rw [e] at h; exact Nat.lt_irrefl _ h) (GL_pw hW y)
theorem GL_ow (hW : WF w) {y : Nat} {q : UU} (h : q ∈ GL w y) : OW w q := OW_of hW (fun b hb => (((GL_mem hW y q).mp h).1.2 b hb).imp id (fun ⟨x, x1, _, x3⟩ => ⟨x, x1, x3⟩))
theorem CL_all (hW : WF w) (y : Nat) : (CL w y (nB w)).length = (GL w y).length :=
  List.Perm.length_eq ((List.perm_ext_iff_of_nodup (CL_nd hW y (nB w)) (GL_nd hW y)).mpr (fun q => by
    rw [CL_mem hW]
    exact ⟨fun z => z.1, fun z => ⟨z, gvn_le q (nB w)⟩⟩))
theorem CL_len (hW : WF w) (y m : Nat) : (CL w y m).length ≤ 59049 := by
  have h1 := List.Perm.length_eq ((List.perm_ext_iff_of_nodup (CL_nd hW y m) (List.Pairwise.filter (fun q => decide (gvn w q ≤ m)) (GL_nd hW y))).mpr (fun q => by rw [CL_mem hW, List.mem_filter, decide_eq_true_eq]))
  have h3 := List.length_filter_le (fun q => decide (gvn w q ≤ m)) (GL w y)
  have h2 := (GL_len hW y).1
  omega
theorem X_bgive_s (hF : 1000 ≤ F) (hC : CC D w) (hW : WF w) {y : Nat} (hy : y ≤ 30) {mo : Nat} (hmo : mo ≤ 5) (hT : XT w y D) {A : List UU} (hX : XB w D A) (hA : A.length ≤ 59049) (hG : GB D (fun _ => 10000) (fun _ => -10000)) : ∃ D', g_BookSearch_give F 20 (nI 0) ((nI 1 <<< (D 19 12 &&& 31)) - nI 1) (nI 0) (nI mo) D = some D' ∧ OUTB D D' ∧ XB w D' (A ++ CL w y mo) ∧ GB D' (fun _ => 10000) (fun _ => -10000) := by
  have h8 := wf_A8 hW
  have hB := wf_B5 hW
  have hV := wf_V30 hW
  have pp := Nat.pow_pos (n := nB w) (show 0 < 2 by decide)
  have hl := CL_len hW y mo
  have := B_give_s hF hW hy (nA w) 20 (2 ^ nB w - 1) mo (ob w (nB w)) A D (fun _ => 10000) (fun _ => -10000) (by omega) (Nat.le_refl _) hC hT hX hG (fun g hg => ⟨show (-10000 : Int) - 10000 ≤ nV w by omega, fun x hx => absurd hx (by omega), Or.inl ⟨rfl, rfl⟩⟩) (fun b hb => Or.inl (if_pos hb)) (full_32 hW) (FB_ob w) hmo (by unfold CL at hl; omega)
  rw [Nat.sub_self, kyN_ob] at this
  rw [c_12 hC, wf_B hW, nb_shl _ (by omega), nI_subN (by omega)]
  exact this
theorem X_fall_s (hF : 1000 ≤ F) (hC : CC D w) (hW : WF w) {y : Nat} (hy : y ≤ 30) : ∃ D', g_BookSearch_findAll F (nI y) D = some D' ∧ (∀ c, c < 45 ∨ 50 < c → D' c = D c) ∧ D' 45 0 = nI (CL w y (nB w)).length := by
  have hB := wf_B5 hW
  obtain ⟨A, a1, a2, a3, a4, a5⟩ := X_bbegin_s hF hC hW y
  have cA : CC A w := CC_of hC (fun c hc => a2 c (by omega))
  obtain ⟨B, b1, b2, b3, b4⟩ := X_bgive_s hF cA hW hy hB a3 a4 (by simp) a5
  unfold g_BookSearch_findAll
  rw [a1, ob_some]
  have e : A 19 12 = nI (nB w) := by rw [c_12 cA, wf_B hW]
  rw [← e] at b1
  rw [b1, ob_some]
  refine ⟨B, rfl, fun c hc => ?_, ?_⟩
  · rw [b2 c (by omega) (by omega) (by omega), a2 c hc]
  · rw [b3.1]
    rfl
theorem X_ffew_s (hF : 1000 ≤ F) (hC : CC D w) (hW : WF w) {y : Nat} (hy : y ≤ 30) : ∃ D', g_BookSearch_findFewest F (nI y) D = some D' ∧ (∀ c, c < 45 ∨ 50 < c → D' c = D c) ∧ ((D' 45 7 = -1 ∧ ∀ m, m ≤ nB w → CL w y m = []) ∨ ∃ m, m ≤ nB w ∧ CL w y m ≠ [] ∧ D' 45 7 = iI (mnk w (CL w y m))) := by
  have hB := wf_B5 hW
  obtain ⟨A, a1, a2, a3, a4, a5⟩ := X_bbegin_s hF hC hW y
  have cA : CC A w := CC_of hC (fun c hc => a2 c (by omega))
  unfold g_BookSearch_findFewest
  rw [a1, ob_some]
  have go : ∀ n a, a + n = nB w + 1 → ∀ j, n + 1 < j → ∀ X : mx_D, OUTB A X → XB w X [] → GB X (fun _ => 10000) (fun _ => -10000) → (∀ m, m < a → CL w y m = []) → ∃ D', g_BookSearch_findFewest_7 F j (nI a) X = some D' ∧ OUTB A D' ∧ ((D' 45 7 = -1 ∧ ∀ m, m ≤ nB w → CL w y m = []) ∨ ∃ m, m ≤ nB w ∧ CL w y m ≠ [] ∧ D' 45 7 = iI (mnk w (CL w y m))) := by
    intro n
    induction n with
    | zero =>
      intro a ha j hj X hO hX hG hn
      obtain ⟨j, rfl⟩ : ∃ g, j = g + 1 := ⟨j - 1, by omega⟩
      have cX := OUTB_CC hO cA
      rw [s_BookSearch_findFewest_7]
      unfold b_BookSearch_findFewest_7
      rw [c_12 cX, wf_B hW, if_pos (by rw [Int32.lt_iff_toInt_lt, nI_toInt (by omega), nI_toInt (by omega)]; omega)]
      exact ⟨X, rfl, hO, Or.inl ⟨hX.2.1, fun m hm => hn m (by omega)⟩⟩
    | succ n ih =>
      intro a ha j hj X hO hX hG hn
      obtain ⟨j, rfl⟩ : ∃ g, j = g + 1 := ⟨j - 1, by omega⟩
      have cX := OUTB_CC hO cA
      have hTX := OUTB_XT hO a3
      obtain ⟨Y, y1, y2, y3, y4⟩ := X_bgive_s hF cX hW hy (mo := a) (by omega) hTX hX (by simp) hG
      have hOY := OUTB_t hO y2
      have cY := OUTB_CC hOY cA
      rw [s_BookSearch_findFewest_7]
      unfold b_BookSearch_findFewest_7
      have e7 : X 45 7 = -1 := hX.2.1
      rw [e7, if_pos rfl, y1, ob_some]
      rw [show (X 19 12 : Int32) = nI (nB w) by rw [c_12 cX, wf_B hW], if_neg (fun z => by rw [Int32.lt_iff_toInt_lt, nI_toInt (by omega), nI_toInt (by omega)] at z; omega), nI_add]
      rw [List.nil_append] at y3
      rcases mnk_sp (w := w) (CL w y a) with ⟨q1, -⟩ | ⟨q1, q2, -, -⟩
      · rw [q1] at y3
        exact ih (a + 1) (by omega) j (by omega) Y hOY y3 y4 (fun m hm => by
          by_cases c : m = a
          · rw [c, q1]
          · exact hn m (by omega))
      · obtain ⟨j, rfl⟩ : ∃ g, j = g + 1 := ⟨j - 1, by omega⟩
        rw [s_BookSearch_findFewest_7]
        unfold b_BookSearch_findFewest_7
        have x4 := y3.2.2.2
        have ne : ¬ Y 45 7 = -1 := by
          rw [y3.2.1, iI_m1, iI_eq (by omega) (by omega) (by omega) (by omega)]
          omega
        rw [if_neg ne, ite_self]
        exact ⟨Y, rfl, hOY, Or.inr ⟨a, by omega, q1, y3.2.1⟩⟩
  obtain ⟨Z, z1, z2, z3⟩ := go (nB w + 1) 0 (by omega) F (by omega) A (fun _ _ _ _ => rfl) a4 a5 (fun m hm => absurd hm (Nat.not_lt_zero m))
  refine ⟨Z, z1, fun c hc => ?_, z3⟩
  rw [z2 c (by omega) (by omega) (by omega), a2 c hc]
/-- what both know of the first with the fewest -/
theorem few_eq (hW : WF w) {y : Nat} {v : Int32} (h : (v = -1 ∧ ∀ m, m ≤ nB w → CL w y m = []) ∨ ∃ m, m ≤ nB w ∧ CL w y m ≠ [] ∧ v = iI (mnk w (CL w y m))) : (bst w (GL w y) = none ∧ v = -1) ∨ ∃ a, bst w (GL w y) = some a ∧ OW w a ∧ v = nI (kyN w a) := by
  rcases bst_least (A := GL w y) (fun o ho => GL_ow hW ho) (GL_pw hW y) with ⟨e1, e2⟩ | ⟨a, a1, a2, a3⟩
  · left
    refine ⟨e2, ?_⟩
    rcases h with h | ⟨m, m1, m2, -⟩
    · exact h.1
    · obtain ⟨q, hq⟩ := List.exists_mem_of_ne_nil _ m2
      have := ((CL_mem hW y m q).mp hq).1
      rw [e1] at this
      exact absurd this List.not_mem_nil
  · right
    refine ⟨a, a1, GL_ow hW a2, ?_⟩
    rcases h with ⟨-, h2⟩ | ⟨m, m1, m2, m3⟩
    · have := (CL_mem hW y (nB w) a).mpr ⟨a2, gvn_le a (nB w)⟩
      rw [h2 _ (Nat.le_refl _)] at this
      exact absurd this List.not_mem_nil
    · rcases mnk_sp (w := w) (CL w y m) with ⟨q1, -⟩ | ⟨-, -, ⟨o, o1, o2⟩, q4⟩
      · exact absurd q1 m2
      · obtain ⟨o3, o4⟩ := (CL_mem hW y m o).mp o1
        obtain ⟨k1, k2⟩ := a3 o o3
        have := q4 a ((CL_mem hW y m a).mpr ⟨a2, by omega⟩)
        rw [m3, iI_nI]
        exact congrArg iI (by omega)
theorem FM_give {D D' : mx_D} (h1 : ∀ c, c ≠ 116 → c ≠ 123 → c ≠ 129 → c ≠ 130 → D' c = D c) (h2 : ∀ i, i ≠ 26 → i ≠ 27 → D' 116 i = D 116 i) : FM D D' :=
  ⟨fun c hc => h1 c (by omega) (by omega) (by omega) (by omega), ⟨h1 _ (by decide) (by decide) (by decide) (by decide), h1 _ (by decide) (by decide) (by decide) (by decide), h1 _ (by decide) (by decide) (by decide) (by decide), h1 _ (by decide) (by decide) (by decide) (by decide), h1 _ (by decide) (by decide) (by decide) (by decide), h1 _ (by decide) (by decide) (by decide) (by decide)⟩, h2 _ (by decide) (by decide), h2 _ (by decide) (by decide), h2 _ (by decide) (by decide)⟩
theorem op_gifts (hF : 100000 ≤ F) (h : RL D E) (a : Int32) : ∃ r D1 D2, g_X_gifts F a D = some (r, D1) ∧ g_M_gifts F a D1 = some (r, D2) ∧ RL D2 E := by
  have hW := h.1
  have hC := h.2.2.1
  unfold g_X_gifts
  rw [X_canAsk_s hC hW, b01_if]
  rcases yr_c (D 117) a with q | ⟨y, hy, rfl, hP, q⟩
  · rw [q, if_neg (by decide)]
    refine ⟨_, D, D, rfl, ?_, h⟩
    unfold g_M_gifts
    rw [M_isYear_s hW, b01_if, q, if_neg (by decide)]
  · rw [q, if_pos rfl]
    obtain ⟨A, a1, a2, a3⟩ := X_fall_s (F := F) (by omega) hC hW hy
    have hFX : FX D A := fun c hc => a2 c (by omega)
    have e117 := hFX 117 (by omega)
    obtain ⟨M, m1, m2, m3, m4, -⟩ := M_giveAll_s (D := A) hF (by rw [e117]; exact hW) hy
    rw [a1, ob_some, a3]
    refine ⟨_, A, M, rfl, ?_, RL_q h (FR_XM hFX (FM_give m2 m3)) (fun _ _ _ => rfl)⟩
    unfold g_M_gifts
    rw [M_isYear_s (by rw [e117]; exact hW), b01_if, e117, q, if_pos rfl, m1, ob_some, m4, e117, CL_all hW]
theorem op_books (hF : 100000 ≤ F) (h : RL D E) (a : Int32) : ∃ r D1 D2, g_X_books F a D = some (r, D1) ∧ g_M_books F a D1 = some (r, D2) ∧ RL D2 E := by
  have hW := h.1
  have hC := h.2.2.1
  unfold g_X_books
  rw [X_canAsk_s hC hW, b01_if]
  rcases yr_c (D 117) a with q | ⟨y, hy, rfl, hP, q⟩
  · rw [q, if_neg (by decide)]
    refine ⟨_, D, D, rfl, ?_, h⟩
    unfold g_M_books
    rw [M_isYear_s hW, b01_if, q, if_neg (by decide)]
  · rw [q, if_pos rfl]
    obtain ⟨A, a1, a2, a3⟩ := X_ffew_s (F := F) (by omega) hC hW hy
    have hFX : FX D A := fun c hc => a2 c (by omega)
    have e117 := hFX 117 (by omega)
    obtain ⟨M, m1, m2, m3, -, m5⟩ := M_giveAll_s (D := A) hF (by rw [e117]; exact hW) hy
    rw [e117] at m5
    rw [a1, ob_some]
    refine ⟨_, A, M, rfl, ?_, RL_q h (FR_XM hFX (FM_give m2 m3)) (fun _ _ _ => rfl)⟩
    unfold g_M_books
    rw [M_isYear_s (by rw [e117]; exact hW), b01_if, e117, q, if_pos rfl, m1, ob_some]
    unfold g_BookSearch_fewest
    rcases few_eq hW a3 with ⟨b1, b2⟩ | ⟨b, b1, b2, b3⟩
    · rcases m5 with ⟨-, m6⟩ | ⟨b', m6, -⟩
      · rw [b2, if_pos rfl, m6]
      · rw [b1] at m6
        exact absurd m6 (by simp)
    · rcases m5 with ⟨m6, -⟩ | ⟨b', m6, m7, -⟩
      · rw [b1] at m6
        exact absurd m6 (by simp)
      · rw [b1] at m6
        injection m6 with m6
        subst m6
        have hk := kyN_lt hW b2
        have hr := rwN_lt b2
        have e : kyN (D 117) b / 59049 = gvn (D 117) b := by
          unfold kyN
          omega
        rw [b3, if_neg (nI_m1 (by omega)), pk_div (by omega) (by decide) (by decide), e, m7]
theorem own_17 (X : mx_D) {b : Nat} (hb : b < 5) : ∀ n row j, b + n ≤ 4 → n < j → row < 400000 → g_BookSearch_ownerOf_17 F X j (nI b) (nI row) (nI (b + n)) = some (nI (row / 9 ^ n % 9) - nI 1)
  | 0, row, j, _, hj, hr => by
    obtain ⟨j, rfl⟩ : ∃ g, j = g + 1 := ⟨j - 1, by omega⟩
    rw [s_BookSearch_ownerOf_17]
    unfold b_BookSearch_ownerOf_17
    rw [Nat.add_zero, if_pos (nI_le (Nat.le_refl _) (by omega)), pk_rem (by omega) (by decide) (by decide), Nat.pow_zero, Nat.div_one]
  | n + 1, row, j, hn, hj, hr => by
    obtain ⟨j, rfl⟩ : ∃ g, j = g + 1 := ⟨j - 1, by omega⟩
    rw [s_BookSearch_ownerOf_17]
    unfold b_BookSearch_ownerOf_17
    have e9 : nI (b + (n + 1)) + (-1 : Int32) = nI (b + n) := by
      rw [iI_nI, iI_nI (b + n), iI_m1, iI_add]
      congr 1
      omega
    have hd : row / 9 ≤ row := Nat.div_le_self _ _
    rw [if_neg (nI_ge (by omega) (by omega)), pk_div (by omega) (by decide) (by decide), e9, own_17 X hb n (row / 9) j (by omega) (by omega) (by omega), Nat.div_div_eq_div_mul, Nat.pow_succ, Nat.mul_comm 9]
theorem op_given (hF : 100000 ≤ F) (h : RL D E) (a b : Int32) : ∃ r D1 D2, g_X_given F a b D = some (r, D1) ∧ g_M_given F a b D1 = some (r, D2) ∧ RL D2 E := by
  have hW := h.1
  have hC := h.2.2.1
  have hB := wf_B5 hW
  unfold g_X_given
  rw [X_canAsk_s hC hW, b01_if, C_hasBook_s hC hW, b01_if]
  rcases yr_c (D 117) a with q | ⟨y, hy, rfl, hP, q⟩
  · rw [q, if_neg (by decide)]
    refine ⟨_, D, D, rfl, ?_, h⟩
    unfold g_M_given
    rw [M_isYear_s hW, b01_if, q, if_neg (by decide)]
  · rw [q, if_pos rfl]
    rcases vx_c b (nB (D 117)) (by omega) with hb | ⟨i, hi, rfl⟩
    · rw [hb, if_neg (by decide)]
      refine ⟨_, D, D, rfl, ?_, h⟩
      unfold g_M_given
      rw [M_isYear_s hW, b01_if, q, if_pos rfl, M_isBook_s hW, hb, b01_if, if_neg (by decide)]
    · rw [vx_nI (by omega), decide_eq_true hi, if_pos rfl]
      obtain ⟨A, a1, a2, a3⟩ := X_ffew_s (F := F) (by omega) hC hW hy
      have hFX : FX D A := fun c hc => a2 c (by omega)
      have e117 := hFX 117 (by omega)
      obtain ⟨M, m1, m2, m3, -, m5⟩ := M_giveAll_s (D := A) hF (by rw [e117]; exact hW) hy
      rw [e117] at m5
      have hRL := RL_q h (FR_XM hFX (FM_give m2 m3)) (E' := E) (fun _ _ _ => rfl)
      have eM : g_M_given F (nI y) (nI i) A = if M 116 26 = -1 then some (-1, M) else some (M 130 i, M) := by
        unfold g_M_given
        rw [M_isYear_s (by rw [e117]; exact hW), b01_if, e117, q, if_pos rfl, M_isBook_s (by rw [e117]; exact hW), b01_if, e117, vx_nI (by omega), decide_eq_true hi, if_pos rfl, m1, ob_some, rk_in (show i < 5 by omega) (by decide), nI_clamp (by omega)]
      rw [a1, ob_some]
      unfold g_BookSearch_ownerOf
      rcases few_eq hW a3 with ⟨b1, b2⟩ | ⟨c, b1, b2, b3⟩
      · rcases m5 with ⟨-, m6⟩ | ⟨b', m6, -⟩
        · rw [b2, if_pos rfl, ob_some]
          exact ⟨_, A, M, rfl, by rw [eM, if_pos m6], hRL⟩
        · rw [b1] at m6
          exact absurd m6 (by simp)
      · rcases m5 with ⟨m6, -⟩ | ⟨b', m6, m7, m8⟩
        · rw [b1] at m6
          exact absurd m6 (by simp)
        · rw [b1] at m6
          injection m6 with m6
          subst m6
          have hk := kyN_lt hW b2
          have hg := gvn_le c (nB (D 117))
          have hg2 : gvn (D 117) c ≤ nB (D 117) := hg
          have e4 : nI 4 = nI (i + (4 - i)) := by rw [show i + (4 - i) = 4 by omega]
          have ed : kyN (D 117) c / 9 ^ (4 - i) % 9 = dgt (D 117) c i := by
            have d0 := dgt_8 b2 0
            have d1 := dgt_8 b2 1
            have d2 := dgt_8 b2 2
            have d3 := dgt_8 b2 3
            have d4 := dgt_8 b2 4
            unfold kyN rwN
            rcases (show i = 0 ∨ i = 1 ∨ i = 2 ∨ i = 3 ∨ i = 4 by omega) with rfl | rfl | rfl | rfl | rfl
            · rw [show 9 ^ (4 - 0) = 6561 from rfl]
              omega
            · rw [show 9 ^ (4 - 1) = 729 from rfl]
              omega
            · rw [show 9 ^ (4 - 2) = 81 from rfl]
              omega
            · rw [show 9 ^ (4 - 3) = 9 from rfl]
              omega
            · rw [show 9 ^ (4 - 4) = 1 from rfl]
              omega
          have ev : nI (dgt (D 117) c i) - nI 1 = c i := by
            rcases b2 i hi with z | ⟨x, x1, x2⟩
            · rw [dgt_m z, z]
              decide
            · rw [dgt_x hi x1 x2, nI_subN (by omega), x2]
              congr 1
          rw [b3, if_neg (nI_m1 (by omega)), e4, own_17 A (by omega) (4 - i) _ F (by omega) (by omega) (by omega), ob_some, ed, ev]
          exact ⟨_, A, M, rfl, by rw [eM, m7, if_neg (nI_m1 (by omega)), m8 i hi], hRL⟩
end BO
