/-! ===== kinds: the reference's count over all parts of a set ===== -/
section KM
variable {D : mx_D} {E : mx_E} {w : W_} {F : Nat}
theorem M_layB_s (hF : 100 ≤ F) (hW : WF (D 117)) (y : Nat) : ∃ D', g_M_layBodies F (nI y) D = some D' ∧ (∀ c, c ≠ 123 → D' c = D c) ∧ ∀ x, x < nA (D 117) → D' 123 x = iI (bod (D 117) y x) := by
  have h8 := wf_A8 hW
  unfold g_M_layBodies
  refine lp0 (F := F) (s := D) (fun a (s : mx_D) => (∀ c, c ≠ 123 → s c = D c) ∧ ∀ x, x < a → s 123 x = iI (bod (D 117) y x)) (fun D' => (∀ c, c ≠ 123 → D' c = D c) ∧ ∀ x, x < nA (D 117) → D' 123 x = iI (bod (D 117) y x)) (fun f a s => g_M_layBodies_2 F f (nI y) (nI a) s) (n := nA (D 117)) (by omega) ⟨fun _ _ => rfl, fun x hx => absurd hx (Nat.not_lt_zero x)⟩ (fun f a s ha hP => ?_) (fun f s hP => ?_)
  · refine ⟨sD s 123 a (iI (bod (D 117) y a)), ⟨fun c hc => ?_, fun x hx => ?_⟩, ?_⟩
    · rw [sD_nr s _ _ hc, hP.1 c hc]
    · by_cases e : x = a
      · subst e
        rw [sD_eq]
      · rw [sD_nj s _ _ e]
        exact hP.2 x (by omega)
    · have e := hP.1 117 (by decide)
      have hw : WF (s 117) := by rw [e]; exact hW
      show g_M_layBodies_2 F (f + 1) (nI y) (nI a) s = _
      rw [s_M_layBodies_2]
      unfold b_M_layBodies_2
      rw [wf_A hw, e, if_neg (nI_ge ha (by omega)), M_bodyOf_s hF hw (by rw [e]; exact ha), ob_some, rk_in (by omega) (by decide), nI_clamp (by omega), nI_add, e]
  · refine ⟨s, ?_, hP⟩
    have e := hP.1 117 (by decide)
    have hw : WF (s 117) := by rw [e]; exact hW
    show g_M_layBodies_2 F (f + 1) (nI y) _ s = _
    rw [s_M_layBodies_2]
    unfold b_M_layBodies_2
    rw [wf_A hw, e, if_pos (nI_le (Nat.le_refl _) (by omega))]
set_option maxRecDepth 100000 in
theorem low_all : ∀ m : Fin 256, (decide (m.val = 0) || (List.range 8).any (fun x => m.val.testBit x && decide (nI m.val &&& (-(nI m.val)) = nI (2 ^ x)))) = true := by decide +kernel
theorem low_s {m : Nat} (hm : m < 256) (h0 : m ≠ 0) : ∃ x, x < 8 ∧ m.testBit x = true ∧ nI m &&& (-(nI m)) = nI (2 ^ x) := by
  have h := low_all ⟨m, hm⟩
  rw [Bool.or_eq_true, decide_eq_true_eq, List.any_eq_true] at h
  rcases h with h | ⟨x, hx, h⟩
  · exact absurd h h0
  · rw [Bool.and_eq_true, decide_eq_true_eq] at h
    exact ⟨x, List.mem_range.mp hx, h.1, h.2⟩
theorem and_pow {a x : Nat} : a &&& 2 ^ x = 0 ↔ a.testBit x = false := by
  constructor
  · intro h
    have e : (a &&& 2 ^ x).testBit x = (a.testBit x && (2 ^ x).testBit x) := Nat.testBit_and _ _ _
    rw [h, Nat.testBit_two_pow_self] at e
    simp at e
    exact e
  · intro h
    apply Nat.eq_of_testBit_eq
    intro i
    rw [Nat.testBit_and, Nat.testBit_two_pow]
    by_cases e : x = i
    · subst e
      rw [h]
      simp
    · simp [e]
/-- the least number of groups of a set -/
def gv (hs : Nat → Int) (L P : Int) (S v : Nat) : Prop := col hs L P S v ∧ ∀ K, col hs L P S K → v ≤ K
def gd (hs : Nat → Int) (L P : Int) (x0 S T : Nat) : Prop := T &&& S = T ∧ T.testBit x0 = true ∧ (bc T : Int) ≤ P ∧ spr hs T ≤ L
theorem bc_256 {T : Nat} (h : T < 256) : bc T ≤ 8 := bc_8 T h
theorem M_kindsBy_s (hF : 2000 ≤ F) (hW : WF (D 117)) {hs : Nat → Int} (hh : ∀ x, x < nA (D 117) → D 123 x = iI (hs x)) (hb : ∀ x, x < nA (D 117) → -10000 < hs x ∧ hs x < 10000) (hL1 : 0 < nL (D 117)) {L : Int} (hL : 0 ≤ L) (hL2 : L ≤ 100000) : ∃ v D', g_M_kindsBy F (iI L) D = some (nI v, D') ∧ (∀ c, c ≠ 133 → D' c = D c) ∧ v ≤ 8 ∧ gv hs L (nL (D 117)) (sM (D 117)) v := by
  have h8 := wf_A8 hW
  have h5 := wf_L5 hW
  have hS := sM_lt8 hW
  unfold g_M_kindsBy
  rw [M_sitters_s (by omega) hW, ob_some]
  generalize hw : D 117 = w at hW hh hb hL1 h8 h5 hS
  have g0 : gv hs L (nL w) 0 0 := ⟨⟨fun _ => 0, fun x hx => by simp at hx, fun x y hx => by simp at hx, fun k => by
    have : sg 8 (fun x => if (0 : Nat).testBit x = true ∧ 0 = k then (1 : Int) else 0) = sg 8 (fun _ => 0) := sg_c 8 (fun x _ => if_neg (fun z => by have := z.1; simp at this))
    rw [this, sg_0]
    exact Int.natCast_nonneg _⟩, fun K _ => Nat.zero_le K⟩
  obtain ⟨r, r1, r2, v, r3, r4, r5⟩ := lp (fun k (s : mx_D) => (∀ c, c ≠ 133 → s c = D c) ∧ ∀ S, S < k + 1 → S &&& sM w = S → ∃ v, v ≤ 8 ∧ s 133 S = nI v ∧ gv hs L (nL w) S v) (fun (r : Int32 × mx_D) => (∀ c, c ≠ 133 → r.2 c = D c) ∧ ∃ v, r.1 = nI v ∧ v ≤ 8 ∧ gv hs L (nL w) (sM w) v) (fun f k s => g_M_kindsBy_14 F f (iI L) (nI (sM w)) (nI (k + 1)) s) (sM w) (fun f k s hk hI => by
    obtain ⟨i1, i2⟩ := hI
    have hk8 : k + 1 < 256 := by omega
    right
    show ∃ s', _ ∧ g_M_kindsBy_14 F (f + 1) (iI L) (nI (sM w)) (nI (k + 1)) s = g_M_kindsBy_14 F f (iI L) (nI (sM w)) (nI (k + 1 + 1)) s'
    rw [s_M_kindsBy_14]
    unfold b_M_kindsBy_14
    rw [if_neg (nI_nlt (by omega) (by omega)), rk_in hk8 (by decide), nI_clamp (by omega), nb_not]
    have hX : ∀ c, c ≠ 133 → sD s 133 (k + 1) (nI 1000000) c = D c := fun c hc => by rw [sD_nr _ _ _ hc, i1 c hc]
    have x1 : sD s 133 (k + 1) (nI 1000000) 133 (k + 1) = nI 1000000 := sD_eq _ _ _ _
    have xo : ∀ j, j ≠ k + 1 → sD s 133 (k + 1) (nI 1000000) 133 j = s 133 j := fun j hj => sD_nj _ _ _ hj
    generalize sD s 133 (k + 1) (nI 1000000) = X at hX x1 xo ⊢
    by_cases cn : nand (k + 1) (sM w) = 0
    · rw [if_pos (by rw [cn]; rfl)]
      have hsub := nand_and cn
      have hsubA : sub (k + 1) (nA w) := fun x hx => sub_sM w x (nand_sub cn x hx)
      obtain ⟨x0, x08, x0b, ex0⟩ := low_s hk8 (Nat.succ_ne_zero k)
      rw [ex0]
      -- what the smaller parts have
      have val : ∀ S, S < k + 1 → S &&& sM w = S → ∃ v, v ≤ 8 ∧ s 133 S = nI v ∧ (s 133 S).toNatClampNeg = v ∧ gv hs L (nL w) S v := fun S h1 h2 => by
        obtain ⟨v, v1, v2, v3⟩ := i2 S h1 h2
        exact ⟨v, v1, v2, by rw [v2, nI_clamp (by omega)], v3⟩
      -- the rest of the set without a part that holds its first
      have rest : ∀ T, T &&& (k + 1) = T → T.testBit x0 = true → nand (k + 1) T < k + 1 ∧ nand (k + 1) T &&& sM w = nand (k + 1) T := fun T h1 h2 => by
        have sb : ∀ x, (nand (k + 1) T).testBit x = true → (k + 1).testBit x = true := fun x hx => by
          rw [nand_tb, Bool.and_eq_true] at hx
          exact hx.1
        refine ⟨?_, sub_and (fun x hx => and_sub hsub x (sb x hx))⟩
        have le := nand_le (and_nand (sub_and sb))
        rcases Nat.lt_or_ge (nand (k + 1) T) (k + 1) with q | q
        · exact q
        · have e : nand (k + 1) T = k + 1 := by omega
          have := nand_tb (k + 1) T x0
          rw [e, x0b, h2] at this
          exact absurd this (by decide)
      have inner : ∀ (o : Nat) (f' : Nat) (s' : mx_D) (u : Nat), o &&& (k + 1) = o → o < f' → (∀ c, c ≠ 133 → s' c = D c) → (∀ j, j ≠ k + 1 → s' 133 j = s 133 j) → s' 133 (k + 1) = nI u → u ≤ 1000000 → (u = 1000000 ∨ ∃ T, gd hs L (nL w) x0 (k + 1) T ∧ u = (s 133 (nand (k + 1) T)).toNatClampNeg + 1) → (∀ T, gd hs L (nL w) x0 (k + 1) T → o < T → u ≤ (s 133 (nand (k + 1) T)).toNatClampNeg + 1) → ∃ s2 u2, g_M_kindsBy_48 F (g_M_kindsBy_14 F f) f' (iI L) (nI (sM w)) (nI (k + 1)) (nI (2 ^ x0)) (nI o) s' = g_M_kindsBy_14 F f (iI L) (nI (sM w)) (nI (k + 1 + 1)) s2 ∧ (∀ c, c ≠ 133 → s2 c = D c) ∧ (∀ j, j ≠ k + 1 → s2 133 j = s 133 j) ∧ s2 133 (k + 1) = nI u2 ∧ (u2 = 1000000 ∨ ∃ T, gd hs L (nL w) x0 (k + 1) T ∧ u2 = (s 133 (nand (k + 1) T)).toNatClampNeg + 1) ∧ (∀ T, gd hs L (nL w) x0 (k + 1) T → 0 < T → u2 ≤ (s 133 (nand (k + 1) T)).toNatClampNeg + 1) := by
        intro o
        induction o using Nat.strongRecOn with
        | _ o ih =>
          intro f' s' u ho hf j1 j2 j3 j4 j5 j6
          obtain ⟨f', rfl⟩ : ∃ g, f' = g + 1 := ⟨f' - 1, by omega⟩
          have ole : o ≤ k + 1 := nand_le (and_nand ho)
          rw [show g_M_kindsBy_48 F (g_M_kindsBy_14 F f) (f' + 1) = b_M_kindsBy_48 F (g_M_kindsBy_14 F f) (g_M_kindsBy_48 F (g_M_kindsBy_14 F f) f') from rfl]
          unfold b_M_kindsBy_48
          by_cases o0 : o = 0
          · subst o0
            rw [if_pos (by decide), nI_add]
            exact ⟨s', u, rfl, j1, j2, j3, j5, j6⟩
          · have hp : (o - 1) &&& (k + 1) < o := Nat.lt_of_le_of_lt Nat.and_le_left (by omega)
            have hps : (o - 1) &&& (k + 1) &&& (k + 1) = (o - 1) &&& (k + 1) := by rw [Nat.and_assoc, Nat.and_self]
            rw [if_neg (nI_nle (by omega) (by omega)), nI_subN (show 1 ≤ o by omega), nb_and, nb_and]
            -- the part is passed over
            have pass : (gd hs L (nL w) x0 (k + 1) o → u ≤ (s 133 (nand (k + 1) o)).toNatClampNeg + 1) → ∃ s2 u2, g_M_kindsBy_48 F (g_M_kindsBy_14 F f) f' (iI L) (nI (sM w)) (nI (k + 1)) (nI (2 ^ x0)) (nI ((o - 1) &&& (k + 1))) s' = g_M_kindsBy_14 F f (iI L) (nI (sM w)) (nI (k + 1 + 1)) s2 ∧ (∀ c, c ≠ 133 → s2 c = D c) ∧ (∀ j, j ≠ k + 1 → s2 133 j = s 133 j) ∧ s2 133 (k + 1) = nI u2 ∧ (u2 = 1000000 ∨ ∃ T, gd hs L (nL w) x0 (k + 1) T ∧ u2 = (s 133 (nand (k + 1) T)).toNatClampNeg + 1) ∧ (∀ T, gd hs L (nL w) x0 (k + 1) T → 0 < T → u2 ≤ (s 133 (nand (k + 1) T)).toNatClampNeg + 1) := fun hg =>
              ih _ hp f' s' u hps (by omega) j1 j2 j3 j4 j5 (fun T hT hlt => by
                rcases Nat.lt_trichotomy T o with q | q | q
                · have := prevS o (k + 1) T ho hT.1 q
                  omega
                · subst q
                  exact hg hT
                · exact j6 T hT q)
            by_cases c1 : o.testBit x0 = true
            · rw [if_neg (fun e => by
                have := (nI_z _ (by have := Nat.and_le_left (n := o) (m := 2 ^ x0); omega)).mp e
                rw [and_pow, c1] at this
                exact absurd this (by decide)), M_bits_s (by omega) (by omega), ob_some, j1 117 (by decide), hw, wf_L hW]
              have b8 := bc_256 (show o < 256 by omega)
              by_cases c2 : bc o ≤ nL w
              · have hsubO : sub o (nA w) := fun x hx => hsubA x (and_sub ho x hx)
                have e117 : s' 117 = w := by rw [j1 117 (by decide), hw]
                have sp := M_spreadOf_s (D := s') (F := F) (by omega) (by rw [e117]; exact hW) (hs := hs) (by rw [e117]; exact fun x hx => by rw [j1 123 (by decide)]; exact hh x hx) (by rw [e117]; exact hb) (m := o) (by rw [e117]; exact hsubO)
                have su := spr_u (hs := hs) (sub_256 hsubO h8) (fun x hx => hb x (hsubO x hx))
                rw [if_neg (nI_nlt c2 (by omega)), sp, ob_some]
                have cmp : iI (spr hs o) ≤ iI L ↔ spr hs o ≤ L := iI_le (by omega) (by omega) (by omega) (by omega)
                by_cases c3 : spr hs o ≤ L
                · obtain ⟨n1, n2⟩ := rest o ho c1
                  obtain ⟨v, v1, v2, v3, v4⟩ := val _ n1 n2
                  have hgd : gd hs L (nL w) x0 (k + 1) o := ⟨ho, c1, Int.ofNat_le.mpr c2, c3⟩
                  rw [if_pos (cmp.mpr c3), rk_in hk8 (by decide), nb_not, rk_in (show nand (k + 1) o < 256 by omega) (by decide), rk_in hk8 (by decide), nI_clamp (by omega), nI_clamp (show nand (k + 1) o < 2 ^ 31 by omega), j3, j2 _ (by omega), v2, nI_add, imn_N (by omega) (by omega)]
                  refine ih _ hp f' _ (min u (v + 1)) hps (by omega) (fun c hc => by rw [sD_nr _ _ _ hc, j1 c hc]) (fun j hj => by rw [sD_nj _ _ _ hj, j2 j hj]) (sD_eq _ _ _ _) (by omega) ?_ (fun T hT hlt => ?_)
                  · rcases Nat.le_total u (v + 1) with q | q
                    · rw [Nat.min_eq_left q]
                      exact j5
                    · rw [Nat.min_eq_right q]
                      exact Or.inr ⟨o, hgd, by rw [v3]⟩
                  · rcases Nat.lt_trichotomy T o with q | q | q
                    · have := prevS o (k + 1) T ho hT.1 q
                      omega
                    · subst q
                      rw [v3]
                      exact Nat.min_le_right _ _
                    · have := j6 T hT q
                      omega
                · rw [if_neg (fun q => c3 (cmp.mp q))]
                  exact pass (fun hg => absurd hg.2.2.2 c3)
              · rw [if_pos (nI_lt (by omega) (by omega))]
                exact pass (fun hg => absurd (Int.ofNat_le.mp hg.2.2.1) c2)
            · rw [if_pos (by
                have : o &&& 2 ^ x0 = 0 := and_pow.mpr (by simpa using c1)
                rw [this]
                rfl)]
              exact pass (fun hg => absurd hg.2.1 c1)
      obtain ⟨s2, u2, z1, z2, z3, z4, z5, z6⟩ := inner (k + 1) F X 1000000 (Nat.and_self _) (by omega) hX xo x1 (Nat.le_refl _) (Or.inl rfl) (fun T hT hlt => by
        have := nand_le (and_nand hT.1)
        omega)
      rw [z1]
      refine ⟨s2, ⟨z2, fun S hS hs' => ?_⟩, rfl⟩
      by_cases e : S = k + 1
      · subst e
        -- the first alone
        have g1 : gd hs L (nL w) x0 (k + 1) (2 ^ x0) := by
          refine ⟨sub_and (fun x hx => ?_), Nat.testBit_two_pow_self, ?_, ?_⟩
          · rw [Nat.testBit_two_pow] at hx
            have e : x0 = x := of_decide_eq_true hx
            rw [← e]
            exact x0b
          · have : ∀ x, x < 8 → bc (2 ^ x) = 1 := by decide +kernel
            rw [this x0 x08]
            omega
          · have p256 : 2 ^ x0 < 256 := Nat.pow_lt_pow_right (by decide) x08
            rw [spr_le p256 (fun x _ hx => by
              rw [Nat.testBit_two_pow] at hx
              have e : x0 = x := of_decide_eq_true hx
              rw [← e]
              exact hb x0 (hsubA x0 x0b)) hL]
            intro x y _ _ hx hy
            rw [Nat.testBit_two_pow] at hx hy
            have e1 : x0 = x := of_decide_eq_true hx
            have e2 : x0 = y := of_decide_eq_true hy
            rw [← e1, ← e2]
            omega
        have p0 := z6 _ g1 (Nat.two_pow_pos x0)
        obtain ⟨n1, n2⟩ := rest _ g1.1 g1.2.1
        obtain ⟨v, v1, v2, v3, -⟩ := val _ n1 n2
        rcases z5 with q | ⟨T, t1, t2⟩
        · omega
        · obtain ⟨m1, m2⟩ := rest T t1.1 t1.2.1
          obtain ⟨v', v1', v2', v3', v4'⟩ := val _ m1 m2
          rw [v3'] at t2
          have T256 : T < 256 := by have := nand_le (and_nand t1.1); omega
          have hgv : gv hs L (nL w) (k + 1) u2 := by
            refine ⟨?_, fun K hK => ?_⟩
            · rw [t2]
              refine ADD v4'.1 t1.2.2.1 (fun x y hx hy => ?_) (fun x hx => ?_) (fun x hx => ?_)
              · exact (spr_le T256 (fun x _ hx => hb x (hsubA x (and_sub t1.1 x hx))) hL).mp t1.2.2.2 x y (tb_8 T256 hx) (tb_8 T256 hy) hx hy
              · rw [nand_tb, hx]
                cases T.testBit x <;> simp
              · rw [nand_tb, Bool.and_eq_true] at hx
                simpa using hx.2
            · obtain ⟨c, hc⟩ := hK
              have hc' := hc
              obtain ⟨h1, h2, h3⟩ := hc
              -- the first's group
              have Tb : ∀ x, (mk (fun x => (k + 1).testBit x && decide (c x = c x0)) 8).testBit x = true ↔ (k + 1).testBit x = true ∧ c x = c x0 := fun x => by
                rw [mk_tb, Bool.and_eq_true, Bool.and_eq_true, decide_eq_true_eq, decide_eq_true_eq]
                exact ⟨fun z => z.2, fun z => ⟨tb_8 hk8 z.1, z⟩⟩
              have t256 : mk (fun x => (k + 1).testBit x && decide (c x = c x0)) 8 < 256 := mk_8 _ (Nat.le_refl 8)
              generalize mk (fun x => (k + 1).testBit x && decide (c x = c x0)) 8 = G at Tb t256
              have gG : gd hs L (nL w) x0 (k + 1) G := by
                refine ⟨sub_and (fun x hx => ((Tb x).mp hx).1), (Tb x0).mpr ⟨x0b, rfl⟩, ?_, ?_⟩
                · rw [bc_sg]
                  have e : sg 8 (fun x => if G.testBit x = true then (1 : Int) else 0) = sg 8 (fun x => if (k + 1).testBit x = true ∧ c x = c x0 then 1 else 0) := sg_c 8 (fun x _ => by
                    by_cases z : G.testBit x = true
                    · rw [if_pos z, if_pos ((Tb x).mp z)]
                    · rw [if_neg z, if_neg (fun q => z ((Tb x).mpr q))])
                  rw [e]
                  exact h3 (c x0)
                · rw [spr_le t256 (fun x _ hx => hb x (hsubA x ((Tb x).mp hx).1)) hL]
                  intro x y _ _ hx hy
                  exact h2 x y ((Tb x).mp hx).1 ((Tb y).mp hy).1 (((Tb x).mp hx).2.trans ((Tb y).mp hy).2.symm)
              have q1 := z6 G gG (Nat.pos_of_ne_zero (fun e => by
                have := (Tb x0).mpr ⟨x0b, rfl⟩
                rw [e] at this
                simp at this))
              obtain ⟨l1, l2⟩ := rest G gG.1 gG.2.1
              obtain ⟨v'', -, -, v3'', v4''⟩ := val _ l1 l2
              rw [v3''] at q1
              have q2 := h1 x0 x0b
              have q3 := v4''.2 (K - 1) (REL (S' := nand (k + 1) G) hc' q2 (fun x hx => by
                rw [nand_tb, Bool.and_eq_true] at hx
                refine ⟨hx.1, fun e => ?_⟩
                have := (Tb x).mpr ⟨hx.1, e⟩
                rw [this] at hx
                exact absurd hx.2 (by decide)))
              omega
          have u8 : u2 ≤ 8 := hgv.2 8 ⟨fun x => x, fun x hx => tb_8 hk8 hx, fun x y _ _ e => by
            have e : x = y := e
            rw [e]
            omega, fun j => by
            have : sg 8 (fun x => if (k + 1).testBit x = true ∧ x = j then (1 : Int) else 0) ≤ sg 8 (fun x => if x = j then 1 else 0) := sg_mono 8 (fun x _ => by
              by_cases z : x = j
              · rw [if_pos z]
                split <;> decide
              · rw [if_neg z, if_neg (fun q => z q.2)]
                exact Int.le_refl _)
            rw [sg_one] at this
            refine Int.le_trans this ?_
            split <;> omega⟩
          exact ⟨u2, u8, z4, hgv⟩
      · obtain ⟨v, v1, v2, v3⟩ := i2 S (by omega) hs'
        exact ⟨v, v1, by rw [z3 S e]; exact v2, v3⟩
    · rw [if_neg (fun e => cn ((nI_z _ (by unfold nand; have h1 : (k + 1) ^^^ ((k + 1) &&& sM w) < 2 ^ 8 := Nat.xor_lt_two_pow (by omega) (Nat.lt_of_le_of_lt Nat.and_le_left (by omega)); omega)).mp e)), nI_add]
      refine ⟨X, ⟨hX, fun S hS hs' => ?_⟩, rfl⟩
      by_cases e : S = k + 1
      · rw [e] at hs'
        exact absurd (and_nand hs') cn
      · obtain ⟨v, v1, v2, v3⟩ := i2 S (by omega) hs'
        exact ⟨v, v1, by rw [xo S e]; exact v2, v3⟩) (fun f s hI => by
    obtain ⟨v, v1, v2, v3⟩ := hI.2 (sM w) (Nat.lt_succ_self _) (Nat.and_self _)
    refine ⟨(nI v, s), ?_, hI.1, v, rfl, v1, v3⟩
    show g_M_kindsBy_14 F (f + 1) (iI L) (nI (sM w)) (nI (sM w + 1)) s = _
    rw [s_M_kindsBy_14]
    unfold b_M_kindsBy_14
    rw [if_pos (nI_lt (by omega) (by omega)), rk_in hS (by decide), nI_clamp (by omega), v2]) (sM w) F 0 (sD D 133 0 (nI 0)) (by omega) (by omega) ⟨fun c hc => sD_nr _ _ _ hc, fun S hS _ => ⟨0, by decide, by rw [show S = 0 by omega]; exact sD_eq _ _ _ _, by rw [show S = 0 by omega]; exact g0⟩⟩
  exact ⟨v, r.2, by rw [← r3]; exact r1, r2, r4, r5⟩
end KM
