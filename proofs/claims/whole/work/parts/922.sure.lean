/-! ===== what was seen: who it surely was ===== -/
section SU
variable {F : Nat} {D : mx_D} {E : mx_E} {w : W_}
theorem sg_le1 {c : Nat → Int} {n o : Nat} (ho : o < n) (h : ∀ i, i < n → 0 ≤ c i) : c o ≤ sg n c := by
  have h2 := sg_mono (f := fun i => if i = o then c o else 0) (g := c) n (fun i hi => by
    by_cases e : i = o
    · subst e
      rw [if_pos rfl]
      exact Int.le_refl _
    · rw [if_neg e]
      exact h i hi)
  rw [sg_one, if_pos ho] at h2
  exact h2
theorem sg_le2 {c : Nat → Int} {n o q : Nat} (ho : o < n) (hq : q < n) (hne : q ≠ o) (h : ∀ i, i < n → 0 ≤ c i) : c o + c q ≤ sg n c := by
  have h2 := sg_mono (f := fun i => (if i = o then c o else 0) + (if i = q then c q else 0)) (g := c) n (fun i hi => by
    by_cases e : i = o
    · subst e
      rw [if_pos rfl, if_neg (fun z => hne z.symm), Int.add_zero]
      exact Int.le_refl _
    · rw [if_neg e, Int.zero_add]
      by_cases e2 : i = q
      · subst e2
        rw [if_pos rfl]
        exact Int.le_refl _
      · rw [if_neg e2]
        exact h i hi)
  rw [sg_add, sg_one, sg_one, if_pos ho, if_pos hq] at h2
  exact h2
theorem sg_only {c : Nat → Int} {n o : Nat} (ho : o < n) (h : ∀ i, i < n → i ≠ o → c i = 0) : sg n c = c o := by
  have : sg n c = sg n (fun i => if i = o then c o else 0) := sg_c n (fun i hi => by
    by_cases e : i = o
    · subst e
      rw [if_pos rfl]
    · rw [if_neg e, h i hi e])
  rw [this, sg_one, if_pos ho]
theorem wy_no (fit : Nat → Nat → Bool) {n i : Nat} (h : ∀ q, q < n → fit i q = false) : ∀ (k T : Nat), i < k → wy fit n k T = 0
  | 0, _, hi => absurd hi (Nat.not_lt_zero i)
  | k + 1, T, hi => by
    rw [wy_s]
    have : sg n (fun p => if T.testBit p = true ∧ fit k p = true then wy fit n k (nand T (2 ^ p)) else 0) = sg n (fun _ => 0) := sg_c n (fun p hp => by
      by_cases e : i = k
      · subst e
        rw [if_neg (fun z => by have := h p hp; rw [z.2] at this; exact absurd this (by decide))]
      · rw [wy_no fit h k _ (by omega)]
        split <;> rfl)
    rw [this, sg_0]
theorem twy_no (fit : Nat → Nat → Bool) {n i k : Nat} (hi : i < k) (h : ∀ q, q < n → fit i q = false) : twy fit n k = 0 := by
  have : twy fit n k = sg 256 (fun _ => 0) := sg_c 256 (fun T _ => wy_no fit h k T hi)
  rw [this, sg_0]
/-- who it surely was, of n with counts c and all of them together -/
def SUR (c : Nat → Int) (n : Nat) (all : Int) (v : Int32) : Prop := (∃ o, o < n ∧ c o = all ∧ v = nI o) ∨ ((∀ o, o < n → c o ≠ all) ∧ v = -1)
theorem SUR_u {c : Nat → Int} {n : Nat} {all : Int} (h0 : 0 < all) (hs : sg n c = all) (hc : ∀ i, i < n → 0 ≤ c i) {v v' : Int32} (h : SUR c n all v) (h' : SUR c n all v') : v = v' := by
  rcases h with ⟨o, o1, o2, rfl⟩ | ⟨o1, rfl⟩
  · rcases h' with ⟨q, q1, q2, rfl⟩ | ⟨q1, rfl⟩
    · by_cases e : q = o
      · rw [e]
      · have := sg_le2 o1 q1 e hc
        omega
    · exact absurd o2 (q1 o o1)
  · rcases h' with ⟨q, q1, q2, rfl⟩ | ⟨q1, rfl⟩
    · exact absurd q2 (o1 q q1)
    · rfl
theorem M_sure_s (hF : 1000 ≤ F) (hW : WF (D 117)) {s n y i : Nat} (hs : s < 4) (hn : n ≤ 20) (hi : i < n) (hm : D 137 s = nI (3 * n)) (hok : ∀ i, i < n → okp (D 117) (rw_ E s) i = true) {all : Int} (h0 : 0 < all) (hb : all ≤ 600000000) : ∃ v D', g_M_sure_57 F E F (nI s) (nI y) (nI i) (iI all) (nI 0) D = some (v, D') ∧ (∀ c, c ≠ 134 → c ≠ 135 → D' c = D c) ∧ SUR (fun p => twy (fry (ftn (D 117) y (rw_ E s)) i p) (nA (D 117)) n) (nA (D 117)) all v := by
  have h8 := wf_A8 hW
  obtain ⟨r, r1, r2, r3⟩ := lp (fun p (x : mx_D) => (∀ c, c ≠ 134 → c ≠ 135 → x c = D c) ∧ ∀ o, o < p → twy (fry (ftn (D 117) y (rw_ E s)) i o) (nA (D 117)) n ≠ all) (fun (r : Int32 × mx_D) => (∀ c, c ≠ 134 → c ≠ 135 → r.2 c = D c) ∧ SUR (fun p => twy (fry (ftn (D 117) y (rw_ E s)) i p) (nA (D 117)) n) (nA (D 117)) all r.1) (fun f p x => g_M_sure_57 F E f (nI s) (nI y) (nI i) (iI all) (nI p) x) (nA (D 117)) (fun f p x hp hI => by
    obtain ⟨i1, i2⟩ := hI
    show (∃ r, g_M_sure_57 F E (f + 1) (nI s) (nI y) (nI i) (iI all) (nI p) x = some r ∧ _) ∨ ∃ s', _ ∧ g_M_sure_57 F E (f + 1) (nI s) (nI y) (nI i) (iI all) (nI p) x = g_M_sure_57 F E f (nI s) (nI y) (nI i) (iI all) (nI (p + 1)) s'
    rw [s_M_sure_57]
    unfold b_M_sure_57
    have ex : x 117 = D 117 := i1 117 (by decide) (by decide)
    have ey : x 137 = D 137 := i1 137 (by decide) (by decide)
    obtain ⟨A, a1, a2⟩ := M_seenBy_s (D := x) (E := E) (F := F) hF (by rw [ex]; exact hW) (y := y) hs hn (by rw [ey]; exact hm) (by rw [ex]; exact hok) (nI i) (nI p)
    have ec : twy (fmy (ftn (D 117) y (rw_ E s)) (nI i) (nI p)) (nA (D 117)) n = twy (fry (ftn (D 117) y (rw_ E s)) i p) (nA (D 117)) n := twy_c (fun j q hj hq => by
      unfold fmy fry
      have e1 : (nI j = nI i) ↔ j = i := nI_eq (by omega) (by omega)
      have e2 : (nI q = nI p) ↔ q = p := nI_eq (by omega) (by omega)
      simp only [e1, e2])
    rw [ex, ec] at a1
    rw [ex, wf_A hW, if_neg (nI_ge hp (by omega)), a1, ob_some]
    have b1 := twy_nn (fry (ftn (D 117) y (rw_ E s)) i p) (nA (D 117)) n
    have b2 := twy_le (fry (ftn (D 117) y (rw_ E s)) i p) (k := n) h8
    have ax : ∀ c, c ≠ 134 → c ≠ 135 → A c = D c := fun c q1 q2 => by rw [a2 c q1 q2, i1 c q1 q2]
    by_cases c : twy (fry (ftn (D 117) y (rw_ E s)) i p) (nA (D 117)) n = all
    · rw [if_pos (show iI (twy (fry (ftn (D 117) y (rw_ E s)) i p) (nA (D 117)) n) = iI all by rw [c])]
      exact Or.inl ⟨_, rfl, ax, Or.inl ⟨p, hp, c, rfl⟩⟩
    · rw [if_neg (fun z => c ((iI_eq (by omega) (by omega) (by omega) (by omega)).mp z)), nI_add]
      refine Or.inr ⟨A, ⟨ax, fun o ho => ?_⟩, rfl⟩
      by_cases e : o = p
      · subst e
        exact c
      · exact i2 o (by omega)) (fun f x hI => by
    refine ⟨(-1, x), ?_, hI.1, Or.inr ⟨hI.2, rfl⟩⟩
    show g_M_sure_57 F E (f + 1) (nI s) (nI y) (nI i) (iI all) (nI (nA (D 117))) x = _
    rw [s_M_sure_57]
    unfold b_M_sure_57
    rw [hI.1 117 (by decide) (by decide), wf_A hW, if_pos (nI_le (Nat.le_refl _) (by omega))]) (nA (D 117)) F 0 D (by omega) (by omega) ⟨fun _ _ _ => rfl, fun o ho => absurd ho (Nat.not_lt_zero o)⟩
  exact ⟨r.1, r.2, r1, r2, r3⟩
theorem S_sure_s (hF : 1000 ≤ F) {n m i : Nat} (hn : n ≤ 8) (hm : m ≤ n) (hi : i < m) (fit : Nat → Nat → Bool) (h0 : D 57 0 = nI m) (h1 : D 57 1 = nI n) (h2 : ∀ j, j < m → D 58 j = nI (mk (fit j) n)) : ∃ v D', g_Sightings_surelyAt_37 F F (nI i) (nI (mk (fit i) n)) (-1) (nI 0) D = some (v, D') ∧ (∀ c, c ≠ 58 → c ≠ 59 → D' c = D c) ∧ ((twy fit n m = 0 → v = -1) ∧ (0 < twy fit n m → SUR (fun p => twy (fry fit i p) n m) n (twy fit n m) v)) := by
  have hsum : sg n (fun p => twy (fry fit i p) n m) = twy fit n m := twy_fry fit hi
  generalize hcc : (fun p => twy (fry fit i p) n m) = c at hsum ⊢
  have hc0 : ∀ p, p < n → 0 ≤ c p := fun p _ => by rw [← hcc]; exact twy_nn _ _ _
  have hce : ∀ p, twy (fry fit i p) n m = c p := fun p => by rw [← hcc]
  have fin : ∀ v : Int32, ((v = -1 ∧ ∀ q, q < n → c q = 0) ∨ (v = -1 ∧ ∃ o q, o < n ∧ q < n ∧ q ≠ o ∧ 0 < c o ∧ 0 < c q) ∨ (∃ o, o < n ∧ v = nI o ∧ 0 < c o ∧ ∀ q, q < n → q ≠ o → c q = 0)) → ((twy fit n m = 0 → v = -1) ∧ (0 < twy fit n m → SUR c n (twy fit n m) v)) := fun v hv => by
    rw [← hsum]
    rcases hv with ⟨e, z⟩ | ⟨e, o, q, o1, q1, hne, o2, q2⟩ | ⟨o, o1, e, o2, o3⟩
    · refine ⟨fun _ => e, fun hp => ?_⟩
      have : sg n c = sg n (fun _ => 0) := sg_c n z
      rw [sg_0] at this
      omega
    · refine ⟨fun _ => e, fun _ => Or.inr ⟨fun o' ho' he => ?_, e⟩⟩
      by_cases z : o' = o
      · subst z
        have := sg_le2 o1 q1 hne hc0
        omega
      · have := sg_le2 o1 ho' z hc0
        omega
    · have es := sg_only o1 o3
      refine ⟨fun z => ?_, fun _ => Or.inl ⟨o, o1, es.symm, e⟩⟩
      omega
  obtain ⟨r, r1, r2, r3⟩ := lp (fun p (s : Int32 × mx_D) => (∀ c, c ≠ 58 → c ≠ 59 → s.2 c = D c) ∧ (∀ j, j ≠ i → s.2 58 j = D 58 j) ∧ ((s.1 = -1 ∧ ∀ q, q < p → c q = 0) ∨ (∃ o, o < p ∧ s.1 = nI o ∧ 0 < c o ∧ ∀ q, q < p → q ≠ o → c q = 0))) (fun (r : Int32 × mx_D) => (∀ c, c ≠ 58 → c ≠ 59 → r.2 c = D c) ∧ ((twy fit n m = 0 → r.1 = -1) ∧ (0 < twy fit n m → SUR c n (twy fit n m) r.1))) (fun f p s => g_Sightings_surelyAt_37 F f (nI i) (nI (mk (fit i) n)) s.1 (nI p) s.2) n (fun f p s hp hI => by
    obtain ⟨v, s⟩ := s
    dsimp only at hI
    obtain ⟨i1, i2, i3⟩ := hI
    show (∃ r, g_Sightings_surelyAt_37 F (f + 1) (nI i) (nI (mk (fit i) n)) v (nI p) s = some r ∧ _) ∨ ∃ s' : Int32 × mx_D, _ ∧ g_Sightings_surelyAt_37 F (f + 1) (nI i) (nI (mk (fit i) n)) v (nI p) s = g_Sightings_surelyAt_37 F f (nI i) (nI (mk (fit i) n)) s'.1 (nI (p + 1)) s'.2
    rw [s_Sightings_surelyAt_37]
    unfold b_Sightings_surelyAt_37
    rw [i1 57 (by decide) (by decide), h1, if_neg (nI_ge hp (by omega)), rk_in (show i < 8 by omega) (by decide), rk_in (show i < 8 by omega) (by decide), nI_clamp (by omega), nb_shl p (by omega), nb_and, sD_eq, nI_add]
    have hmk := mk_8 (fit i) hn
    have hz := nI_z (mk (fit i) n &&& 2 ^ p) (by have := Nat.and_le_left (n := mk (fit i) n) (m := 2 ^ p); omega)
    have hbit : (mk (fit i) n &&& 2 ^ p = 0) ↔ fit i p = false := by
      rw [and_pow, mk_tb, decide_eq_true hp, Bool.true_and]
    have x1 : ∀ c, c ≠ 58 → c ≠ 59 → sD s 58 i (nI (mk (fit i) n &&& 2 ^ p)) c = D c := fun c q1 q2 => by rw [sD_nr _ _ _ q1, i1 c q1 q2]
    have x2 : ∀ j, j ≠ i → sD s 58 i (nI (mk (fit i) n &&& 2 ^ p)) 58 j = D 58 j := fun j hj => by rw [sD_nj _ _ _ hj, i2 j hj]
    have x3 : sD s 58 i (nI (mk (fit i) n &&& 2 ^ p)) 58 i = nI (mk (fit i) n &&& 2 ^ p) := sD_eq _ _ _ _
    generalize sD s 58 i (nI (mk (fit i) n &&& 2 ^ p)) = x at x1 x2 x3 ⊢
    -- nothing at p
    have skip : ∀ x' : mx_D, (∀ c, c ≠ 58 → c ≠ 59 → x' c = D c) → (∀ j, j ≠ i → x' 58 j = D 58 j) → c p = 0 → ((∀ c, c ≠ 58 → c ≠ 59 → x' c = D c) ∧ (∀ j, j ≠ i → x' 58 j = D 58 j) ∧ ((v = -1 ∧ ∀ q, q < p + 1 → c q = 0) ∨ (∃ o, o < p + 1 ∧ v = nI o ∧ 0 < c o ∧ ∀ q, q < p + 1 → q ≠ o → c q = 0))) := fun x' g1 g2 g3 => by
      refine ⟨g1, g2, ?_⟩
      rcases i3 with ⟨e, z⟩ | ⟨o, o1, e, o2, o3⟩
      · refine Or.inl ⟨e, fun q hq => ?_⟩
        by_cases z' : q = p
        · subst z'
          exact g3
        · exact z q (by omega)
      · refine Or.inr ⟨o, by omega, e, o2, fun q hq hne => ?_⟩
        by_cases z' : q = p
        · subst z'
          exact g3
        · exact o3 q (by omega) hne
    by_cases cb : fit i p = false
    · rw [if_pos (hz.mpr (hbit.mpr cb))]
      refine Or.inr ⟨(v, x), skip x x1 x2 ?_, rfl⟩
      rw [← hce p]
      refine twy_no _ hi (fun q hq => ?_)
      unfold fry
      rw [if_pos rfl]
      by_cases e : q = p
      · subst e
        rw [cb, Bool.false_and]
      · rw [decide_eq_false e, Bool.and_false]
    · rw [if_neg (fun z => cb (hbit.mp (hz.mp z)))]
      have e57 : x 57 = D 57 := x1 57 (by decide) (by decide)
      have emask : mk (fry fit i p i) n = mk (fit i) n &&& 2 ^ p := by
        apply Nat.eq_of_testBit_eq
        intro j
        rw [mk_tb, Nat.testBit_and, mk_tb, Nat.testBit_two_pow]
        unfold fry
        rw [if_pos rfl]
        by_cases e : j = p
        · subst e
          simp
        · have e' : ¬ p = j := fun z => e z.symm
          simp [e, e']
      obtain ⟨B, b1, b2⟩ := S_count_s (D := x) (F := F) hF hn (m := m) (by omega) (by rw [e57]; exact h0) (by rw [e57]; exact h1) (fry fit i p) (fun _ j hj => by
        by_cases e : j = i
        · subst e
          rw [x3, emask]
        · rw [x2 j e, h2 j hj]
          congr 1
          refine mk_c n (fun q _ => ?_)
          unfold fry
          rw [if_neg e, Bool.and_true])
      rw [b1, ob_some, hce p]
      have bb1 := hc0 p hp
      have bb2 := twy_le (fry fit i p) (k := m) hn
      rw [hce p] at bb2
      have cz : iI (c p) ≤ 0 ↔ c p = 0 := by
        rw [iI_z, iI_le (by omega) (by omega) (by omega) (by omega)]
        omega
      have g1 : ∀ c, c ≠ 58 → c ≠ 59 → B c = D c := fun c q1 q2 => by rw [b2 c q2, x1 c q1 q2]
      have g2 : ∀ j, j ≠ i → B 58 j = D 58 j := fun j hj => by rw [b2 58 (by decide), x2 j hj]
      by_cases z : c p = 0
      · rw [if_pos (cz.mpr z)]
        exact Or.inr ⟨(v, B), skip B g1 g2 z, rfl⟩
      · rw [if_neg (fun q => z (cz.mp q))]
        rcases i3 with ⟨e, z'⟩ | ⟨o, o1, e, o2, o3⟩
        · rw [if_pos e]
          refine Or.inr ⟨(nI p, B), ⟨g1, g2, Or.inr ⟨p, Nat.lt_succ_self p, rfl, by omega, fun q hq hne => z' q (by omega)⟩⟩, rfl⟩
        · rw [if_neg (fun q => nI_m1 (n := o) (by omega) (e.symm.trans q))]
          exact Or.inl ⟨_, rfl, g1, fin (-1) (Or.inr (Or.inl ⟨rfl, o, p, by omega, hp, by omega, o2, by omega⟩))⟩) (fun f s hI => by
    obtain ⟨v, s⟩ := s
    dsimp only at hI
    obtain ⟨i1, i2, i3⟩ := hI
    refine ⟨(v, s), ?_, i1, fin v ?_⟩
    · show g_Sightings_surelyAt_37 F (f + 1) (nI i) (nI (mk (fit i) n)) v (nI n) s = _
      rw [s_Sightings_surelyAt_37]
      unfold b_Sightings_surelyAt_37
      rw [i1 57 (by decide) (by decide), h1, if_pos (nI_le (Nat.le_refl _) (by omega))]
    · rcases i3 with q | q
      · exact Or.inl q
      · exact Or.inr (Or.inr q)) n F 0 (-1, D) (by omega) (by omega) ⟨fun _ _ _ => rfl, fun _ _ => rfl, Or.inl ⟨rfl, fun q hq => absurd hq (Nat.not_lt_zero q)⟩⟩
  exact ⟨r.1, r.2, r1, r2, r3⟩
theorem op_sure (hF : 20000 ≤ F) (h : RL D E) (a b k : Int32) : ∃ r D1 D2, g_X_sure F E a b k D = some (r, D1) ∧ g_M_sure F E a b k D1 = some (r, D2) ∧ RL D2 E := by
  have hW := h.1
  have h8 := wf_A8 hW
  obtain ⟨v, A, a1, a2, a3, a4⟩ := look_s hF h a b
  have hFX : FX D A := fun c hc => a2 c (by omega) (by omega)
  unfold g_X_sure
  rw [a1, ob_some]
  rcases a4 with ⟨g1, g2⟩ | ⟨rfl, s, y, n, hs, hy, hn, rfl, rfl, m1, ok, c0, c1, c2, hE⟩
  · rw [if_neg g1]
    refine ⟨v, A, A, rfl, ?_, RL_q h (FR_XM hFX (FM_r A)) (fun _ _ _ => rfl)⟩
    unfold g_M_sure
    rw [a3 A (hFX _ (by omega)) (hFX _ (by omega)), ob_some, if_neg g2]
  · rw [if_pos (show nI 0 = 0 from rfl)]
    -- the reference, after whatever the class did
    have ref : ∀ B : mx_D, FX D B → ∃ M, (∀ c, c ≠ 134 → c ≠ 135 → M c = B c) ∧ g_M_sure F E (nI s) (nI y) k B = (if iI (twy (ftn (D 117) y (rw_ E s)) (nA (D 117)) n) = 0 then some (-1, M) else if k < 0 then some (-1, M) else if lg_cmp ((3 : Int64) * k.toInt64) (nI (3 * n)).toInt64 < 0 then g_M_sure_57 F E F (nI s) (nI y) k (iI (twy (ftn (D 117) y (rw_ E s)) (nA (D 117)) n)) (nI 0) M else some (-1, M)) := fun B hFB => by
      have e117 := hFB 117 (by omega)
      have e137 := hFB 137 (by omega)
      obtain ⟨M, d1, d2⟩ := M_seenBy_s (D := B) (E := E) (F := F) (by omega) (by rw [e117]; exact hW) (y := y) hs hn (by rw [e137]; exact m1) (by rw [e117]; exact ok) (-1) (nI 0)
      refine ⟨M, d2, ?_⟩
      unfold g_M_sure
      rw [a3 B e117 e137, ob_some, if_pos (show (0 : Int32) ≤ nI 0 by decide), d1, ob_some, e117, fmy_m1 _ (by omega), rk_in hs (by decide), nI_clamp (by omega)]
      have eM : M 137 s = nI (3 * n) := by rw [d2 137 (by decide) (by decide), e137, m1]
      simp only [eM]
    have t0 := twy_nn (ftn (D 117) y (rw_ E s)) (nA (D 117)) n
    have t1 := twy_le (ftn (D 117) y (rw_ E s)) (k := n) h8
    have tz : iI (twy (ftn (D 117) y (rw_ E s)) (nA (D 117)) n) = 0 ↔ twy (ftn (D 117) y (rw_ E s)) (nA (D 117)) n = 0 := iI_eq (b := 0) (by omega) (by omega) (by omega) (by omega)
    -- where nothing can be sure
    have none_ : (∀ M : mx_D, (if iI (twy (ftn (D 117) y (rw_ E s)) (nA (D 117)) n) = 0 then some ((-1 : Int32), M) else if k < 0 then some (-1, M) else if lg_cmp ((3 : Int64) * k.toInt64) (nI (3 * n)).toInt64 < 0 then g_M_sure_57 F E F (nI s) (nI y) k (iI (twy (ftn (D 117) y (rw_ E s)) (nA (D 117)) n)) (nI 0) M else some (-1, M)) = some (-1, M)) → g_Sightings_surelyAt F k A = some (-1, A) → ∃ r D1 D2, Option.bind (g_Sightings_surelyAt F k A) (fun r2 => some (r2.1, r2.2)) = some (r, D1) ∧ g_M_sure F E (nI s) (nI y) k D1 = some (r, D2) ∧ RL D2 E := fun q1 q2 => by
      obtain ⟨M, d1, d2⟩ := ref A hFX
      rw [q2, ob_some]
      exact ⟨-1, A, M, rfl, by rw [d2, q1 M], RL_q h (FR_XM hFX (FM_ways d1)) (fun _ _ _ => rfl)⟩
    by_cases k0 : k < 0
    · refine none_ (fun M => ?_) ?_
      · rw [if_pos k0]
        split <;> rfl
      · unfold g_Sightings_surelyAt
        rw [if_pos k0]
    · obtain ⟨i, hi, rfl⟩ := nI_of k0
      have cmp : lg_cmp ((3 : Int64) * (nI i).toInt64) (nI (3 * n)).toInt64 < 0 ↔ i < n := by
        rw [lg_cmp_lt, Int64.lt_iff_toInt_lt, Int32.toInt_toInt64, nI_toInt (by omega)]
        have e3 : ((3 : Int64) * (nI i).toInt64).toInt = 3 * (i : Int) := by
          rw [Int64.toInt_mul, Int32.toInt_toInt64, nI_toInt hi, show (3 : Int64).toInt = 3 by decide]
          rw [Int.bmod_eq_of_le] <;> omega
        rw [e3]
        omega
      by_cases c : n ≤ i
      · refine none_ (fun M => ?_) ?_
        · rw [if_neg (show ¬ lg_cmp ((3 : Int64) * (nI i).toInt64) (nI (3 * n)).toInt64 < 0 from fun z => by have := cmp.mp z; omega)]
          split <;> rfl
        · unfold g_Sightings_surelyAt
          rw [if_neg k0, c0, if_pos (nI_le c hi)]
      · by_cases cA : n ≤ nA (D 117)
        · -- both look at every person
          obtain ⟨u, B, b1, b2, b3, b4⟩ := S_sure_s (D := A) (F := F) (by omega) h8 cA (i := i) (by omega) (ftn (D 117) y (rw_ E s)) c0 c1 (fun j hj => c2 j hj (by omega))
          have hFB : FX D B := fun c hc => (b2 c (by omega) (by omega)).trans (hFX c hc)
          have eS : g_Sightings_surelyAt F (nI i) A = some (u, B) := by
            unfold g_Sightings_surelyAt
            rw [if_neg k0, c0, if_neg (nI_ge (by omega) (by omega)), c1, if_pos (nI_le cA (by omega)), rk_in (show i < 8 by omega) (by decide), nI_clamp (by omega), c2 i (by omega) (by omega), b1]
          rw [eS, ob_some]
          obtain ⟨M, d1, d2⟩ := ref B hFB
          by_cases z : twy (ftn (D 117) y (rw_ E s)) (nA (D 117)) n = 0
          · obtain rfl := b3 z
            exact ⟨-1, B, M, rfl, by rw [d2, if_pos (tz.mpr z)], RL_q h (FR_XM hFB (FM_ways d1)) (fun _ _ _ => rfl)⟩
          · have e117 : M 117 = D 117 := (d1 117 (by decide) (by decide)).trans (hFB 117 (by omega))
            have e137 : M 137 = D 137 := (d1 137 (by decide) (by decide)).trans (hFB 137 (by omega))
            obtain ⟨v, N, n1, n2, n3⟩ := M_sure_s (D := M) (E := E) (F := F) (by omega) (by rw [e117]; exact hW) (y := y) (i := i) hs hn (by omega) (by rw [e137]; exact m1) (by rw [e117]; exact ok) (all := twy (ftn (D 117) y (rw_ E s)) (nA (D 117)) n) (by omega) t1
            rw [e117] at n3
            obtain rfl := SUR_u (by omega) (twy_fry _ (by omega)) (fun p _ => twy_nn _ _ _) (b4 (by omega)) n3
            refine ⟨u, B, N, rfl, ?_, RL_q h (FR_XM hFB (FM_ways (fun c q1 q2 => (n2 c q1 q2).trans (d1 c q1 q2)))) (fun _ _ _ => rfl)⟩
            rw [d2, if_neg (fun q => z (tz.mp q)), if_neg k0, if_pos (cmp.mpr (by omega)), n1]
        · have z := twy_z (ftn (D 117) y (rw_ E s)) h8 (k := n) (by omega)
          refine none_ (fun M => if_pos (tz.mpr z)) ?_
          unfold g_Sightings_surelyAt
          rw [if_neg k0, c0, if_neg (nI_ge (by omega) (by omega)), c1, if_neg (nI_ge (by omega) (by omega))]
end SU
