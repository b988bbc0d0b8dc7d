/-! ===== hats: the class's search ===== -/
section HC
variable {F : Nat} {D : mx_D} {E : mx_E} {w : W_}
def acc (all : Bool) (A L : List UU) : List UU := if all = true then A ++ L else (A ++ L).take 1
theorem acc_acc (all : Bool) (A L1 L2 : List UU) : acc all (acc all A L1) L2 = acc all A (L1 ++ L2) := by
  unfold acc
  cases all
  · rw [if_neg (by decide), if_neg (by decide), if_neg (by decide)]
    cases A with
    | nil =>
      cases L1 with
      | nil => rfl
      | cons a B => rfl
    | cons a B => rfl
  · rw [if_pos rfl, if_pos rfl, if_pos rfl, List.append_assoc]
theorem acc_nil {all : Bool} {A : List UU} (h : all = true ∨ A.length ≤ 1) : acc all A [] = A := by
  unfold acc
  rw [List.append_nil]
  cases all
  · rw [if_neg (by decide)]
    rcases h with h | h
    · exact absurd h (by decide)
    · cases A with
      | nil => rfl
      | cons a B =>
        cases B with
        | nil => rfl
        | cons b C =>
          simp at h
  · rw [if_pos rfl]
theorem acc_full {A : List UU} (h : A.length = 1) (L : List UU) : acc false A L = A := by
  unfold acc
  rw [if_neg (by decide)]
  cases A with
  | nil => simp at h
  | cons a B =>
    cases B with
    | nil => rfl
    | cons b C => simp at h
theorem acc_one (all : Bool) {A : List UU} (h : all = true ∨ A.length ≤ 1) (L : List UU) : all = true ∨ (acc all A L).length ≤ 1 := by
  cases all
  · right
    unfold acc
    rw [if_neg (by decide), List.length_take]
    exact Nat.min_le_left _ _
  · exact Or.inl rfl
theorem acc_le (all : Bool) (A L : List UU) : (acc all A L).length ≤ A.length + L.length := by
  unfold acc
  cases all
  · rw [if_neg (by decide), List.length_take, List.length_append]
    exact Nat.min_le_right _ _
  · rw [if_pos rfl, List.length_append]
    exact Nat.le_refl _
def XS (w : W_) (y : Nat) (all : Bool) (D : mx_D) (A : List UU) : Prop := (∀ x, x < nA w → D 54 x = iI (bs w y x)) ∧ D 51 7 = b01 all ∧ D 51 1 = nI A.length ∧ ∀ a B, A = a :: B → ∀ x, x < nA w → st w x = true → D 52 x = a x
def EXT (w : W_) (y : Nat) (u : UU) (p : Nat) (lo tp : Nat → Int) : Prop := ∀ g, g < 4 → tp g - lo g ≤ nV w ∧ (∀ x, x < p → st w x = true → grp w x = g → lo g ≤ Hu w y u x ∧ Hu w y u x ≤ tp g) ∧ ((lo g = 10000 ∧ tp g = -10000) ∨ ∃ x z, x < p ∧ z < p ∧ st w x = true ∧ st w z = true ∧ grp w x = g ∧ grp w z = g ∧ Hu w y u x = lo g ∧ Hu w y u z = tp g)
def GX (D : mx_D) (lo tp : Nat → Int) : Prop := ∀ g, g < 4 → D 55 g = iI (lo g) ∧ D 56 g = iI (tp g)
theorem EXT_b (hW : WF w) {y : Nat} (hy : y ≤ 30) {u : UU} (hu : UOK w u) {p : Nat} (hp : p ≤ nA w) {lo tp : Nat → Int} (h : EXT w y u p lo tp) {g : Nat} (hg : g < 4) : -10000 ≤ lo g ∧ lo g ≤ 10000 ∧ -10000 ≤ tp g ∧ tp g ≤ 10000 := by
  obtain ⟨-, -, h3⟩ := h g hg
  rcases h3 with ⟨e1, e2⟩ | ⟨x, z, x1, z1, -, -, -, -, e1, e2⟩
  · omega
  · have := bs_hv hW hy hu (x := x) (by omega)
    have := bs_hv hW hy hu (x := z) (by omega)
    omega
def OUT (D D' : mx_D) : Prop := ∀ c, c ≠ 51 → c ≠ 52 → c ≠ 53 → c ≠ 55 → c ≠ 56 → D' c = D c
theorem OUT_t {D D' D'' : mx_D} (h : OUT D D') (h' : OUT D' D'') : OUT D D'' := fun c q1 q2 q3 q4 q5 => (h' c q1 q2 q3 q4 q5).trans (h c q1 q2 q3 q4 q5)
theorem OUT_CC {D D' : mx_D} (h : OUT D D') (hC : CC D w) : CC D' w := CC_of hC (fun c hc => h c (by omega) (by omega) (by omega) (by omega) (by omega))
theorem s_hand (F m : Nat) : g_HatSearch_hand F (m + 1) = b_HatSearch_hand F (g_HatSearch_hand F m) := rfl
theorem H_hand_s (hF : 1000 ≤ F) (hW : WF w) {y : Nat} (hy : y ≤ 30) (all : Bool) : ∀ k m f (u : UU) (A : List UU) (D : mx_D) (lo tp : Nat → Int), k < m → k ≤ nA w → CC D w → XS w y all D A → GX D lo tp → EXT w y u (nA w - k) lo tp → UOK w u → (∀ x, x < nA w - k → st w x = true → D 53 x = u x) → f < 256 → (all = true ∨ A = []) → A.length + (sols w y k f u).length < 2 ^ 31 → ∃ D', g_HatSearch_hand F m (nI (nA w - k)) (nI f) D = some D' ∧ OUT D D' ∧ XS w y all D' (acc all A (sols w y k f u)) ∧ GX D' lo tp ∧ ∀ x, x < nA w - k → D' 53 x = D 53 x
  | 0, m, f, u, A, D, lo, tp, hm, _, hC, hX, hG, hE, hu, ht, _, hA, hl => by
    have h8 := wf_A8 hW
    obtain ⟨m, rfl⟩ : ∃ g, m = g + 1 := ⟨m - 1, by omega⟩
    have hLV : LV w y u = true := (LV_iff hW hy hu).mpr (fun x z hx hz sx sz eg => by
      obtain ⟨h1, h2, -⟩ := hE (grp w x) (grp_4 hW hx sx)
      have a := h2 x (by omega) sx rfl
      have b := h2 z (by omega) sz eg.symm
      omega)
    have es : sols w y 0 f u = [u] := by rw [sols_0, if_pos hLV]
    obtain ⟨x1, x2, x3, x4⟩ := hX
    rw [es] at hl ⊢
    rw [Nat.sub_zero] at ht ⊢
    rw [s_hand]
    unfold b_HatSearch_hand
    rw [c_24 hC, wf_A hW, if_neg (fun z => by rw [Int32.lt_iff_toInt_lt] at z; omega)]
    have hl2 : A.length < 2 ^ 31 := by
      have : A.length + 1 < 2 ^ 31 := hl
      omega
    have hz : D 51 1 = 0 ↔ A.length = 0 := by rw [x3]; exact nI_z A.length hl2
    by_cases c : A.length = 0
    · rw [if_pos (hz.mpr c)]
      have eA : A = [] := List.eq_nil_of_length_eq_zero c
      subst eA
      have ea : acc all [] [u] = [u] := by
        unfold acc
        cases all <;> rfl
      rw [ea]
      refine ⟨_, rfl, fun c q1 q2 q3 q4 q5 => ?_, ⟨fun x hx => ?_, ?_, ?_, fun a B e x hx sx => ?_⟩, fun g hg => ⟨?_, ?_⟩, fun x hx => ?_⟩
      · rw [sD_nr _ _ _ q1, cD_nr _ _ _ _ q2]
      · rw [sD_ne _ _ _ _ (by decide), cD_nr _ _ _ _ (by decide), x1 x hx]
      · rw [sD_nj _ _ _ (by decide), cD_nr _ _ _ _ (by decide), x2]
      · rw [sD_eq, cD_nr _ _ _ _ (by decide), x3, nI_add]
        rfl
      · injection e with e2 _
        rw [sD_ne _ _ _ _ (by decide), cD_0 _ _ _ (by omega), ht x hx sx, e2]
      · rw [sD_ne _ _ _ _ (by decide), cD_nr _ _ _ _ (by decide)]
        exact (hG g hg).1
      · rw [sD_ne _ _ _ _ (by decide), cD_nr _ _ _ _ (by decide)]
        exact (hG g hg).2
      · rw [sD_ne _ _ _ _ (by decide), cD_nr _ _ _ _ (by decide)]
    · rw [if_neg (fun z => c (hz.mp z))]
      have hall : all = true := hA.resolve_right (fun e => c (by rw [e]; rfl))
      subst hall
      have ea : acc true A [u] = A ++ [u] := rfl
      rw [ea]
      refine ⟨_, rfl, fun c q1 q2 q3 q4 q5 => ?_, ⟨fun x hx => ?_, ?_, ?_, fun a B e x hx sx => ?_⟩, fun g hg => ⟨?_, ?_⟩, fun x hx => ?_⟩
      · rw [sD_nr _ _ _ q1]
      · rw [sD_ne _ _ _ _ (by decide), x1 x hx]
      · rw [sD_nj _ _ _ (by decide), x2]
      · rw [sD_eq, x3, nI_add, List.length_append]
        rfl
      · rw [sD_ne _ _ _ _ (by decide)]
        cases A with
        | nil => exact absurd rfl c
        | cons b C =>
          have e1 : b :: (C ++ [u]) = a :: B := e
          injection e1 with e2 _
          rw [x4 b C rfl x hx sx, e2]
      · rw [sD_ne _ _ _ _ (by decide)]
        exact (hG g hg).1
      · rw [sD_ne _ _ _ _ (by decide)]
        exact (hG g hg).2
      · rw [sD_ne _ _ _ _ (by decide)]
  | k + 1, m, f, u, A, D, lo, tp, hm, hk, hC, hX, hG, hE, hu, ht, hf, hA, hl => by
    have h8 := wf_A8 hW
    have h9 := wf_H8 hW
    have hV := wf_V30 hW
    obtain ⟨m, rfl⟩ : ∃ g, m = g + 1 := ⟨m - 1, by omega⟩
    have ih := H_hand_s hF hW hy all k m
    rw [s_hand]
    unfold b_HatSearch_hand
    have hpp : nA w - k = nA w - (k + 1) + 1 := by omega
    have hpA : nA w - (k + 1) < nA w := by omega
    rw [c_24 hC, wf_A hW, if_pos ((by rw [Int32.lt_iff_toInt_lt, nI_toInt (by omega), nI_toInt (by omega)]; omega)), C_seat_s hC hW hpA, ob_some, b01_if]
    cases hs : st w (nA w - (k + 1))
    · rw [if_neg (show ¬ false = true by decide), nI_add]
      rw [sols_f hs] at hl ⊢
      have ne : ∀ x, x < nA w - k → st w x = true → x < nA w - (k + 1) := fun x hx sx => by
        by_cases e : x = nA w - (k + 1)
        · rw [e, hs] at sx
          exact absurd sx (by decide)
        · omega
      have hE' : EXT w y u (nA w - k) lo tp := fun g hg => by
        obtain ⟨q1, q2, q3⟩ := hE g hg
        refine ⟨q1, fun x hx sx => q2 x (ne x hx sx) sx, q3.imp id ?_⟩
        rintro ⟨x, z, a1, a2, a3⟩
        exact ⟨x, z, by omega, by omega, a3⟩
      obtain ⟨D', d1, d2, d3, d4, d5⟩ := ih f u A D lo tp (by omega) (by omega) hC hX hG hE' hu (fun x hx sx => ht x (ne x hx sx) sx) hf hA hl
      rw [hpp] at d1 d5
      rw [d1, ob_some]
      exact ⟨D', rfl, d2, d3, d4, fun x hx => d5 x (by omega)⟩
    · rw [if_pos rfl]
      rw [sols_t hs] at hl ⊢
      have hg4 := grp_4 hW hpA hs
      -- the group's number
      have eg : (if D 19 3 = 0 then rk 8 (nI (nA w - (k + 1))) (b_HatSearch_hand_93 F (g_HatSearch_hand F m) (nI (nA w - (k + 1))) (nI f) (D 28 (nI (nA w - (k + 1))).toNatClampNeg) D) else b_HatSearch_hand_93 F (g_HatSearch_hand F m) (nI (nA w - (k + 1))) (nI f) (nI 0) D) = b_HatSearch_hand_93 F (g_HatSearch_hand F m) (nI (nA w - (k + 1))) (nI f) (nI (grp w (nA w - (k + 1)))) D := by
        rw [c_3 hC, rk_in (show nA w - (k + 1) < 8 by omega) (by decide), nI_clamp (by omega), c_28 hC hpA, (wf_sit hW hpA hs).1]
        unfold grp ba
        rcases wf_3 hW with q | q
        · rw [q, if_pos (show nI 0 = 0 from rfl), decide_eq_false (show ¬ nI 0 = nI 1 by decide), if_neg (show ¬ false = true by decide)]
        · rw [q, if_neg (show ¬ nI 1 = 0 by decide), decide_eq_true rfl, if_pos rfl]
      rw [eg]
      generalize hp : nA w - (k + 1) = p at *
      generalize hgg : grp w p = g at *
      unfold b_HatSearch_hand_93
      rw [rk_in hg4 (by decide), rk_in hg4 (by decide), nI_clamp (by omega), (hG g hg4).1, (hG g hg4).2]
      have hb := EXT_b hW hy hu (Nat.le_of_lt hpA) hE hg4
      obtain ⟨q1, q2, q3⟩ := hE g hg4
      have try_ : ∀ n h, h + n = nH w → ∀ j, n < j → ∀ (A : List UU) (X : mx_D), OUT D X → XS w y all X A → (∀ g', g' < 4 → g' ≠ g → X 55 g' = iI (lo g') ∧ X 56 g' = iI (tp g')) → (∀ x, x < p → X 53 x = D 53 x) → (all = true ∨ A.length ≤ 1) → A.length + (fl (sg1 w y k f u) n h).length < 2 ^ 31 → ∃ D', g_HatSearch_hand_113 F (g_HatSearch_hand F m) j (nI p) (nI f) (nI g) (iI (lo g)) (iI (tp g)) (nI h) X = some D' ∧ OUT D D' ∧ XS w y all D' (acc all A (fl (sg1 w y k f u) n h)) ∧ GX D' lo tp ∧ ∀ x, x < p → D' 53 x = D 53 x := by
        intro n
        induction n with
        | zero =>
          intro h hh j hj A X hO hX' hR ht' hA' hl'
          obtain ⟨j, rfl⟩ : ∃ g, j = g + 1 := ⟨j - 1, by omega⟩
          obtain rfl : h = nH w := by omega
          rw [show g_HatSearch_hand_113 F (g_HatSearch_hand F m) (j + 1) = b_HatSearch_hand_113 F (g_HatSearch_hand F m) (g_HatSearch_hand_113 F (g_HatSearch_hand F m) j) from rfl]
          unfold b_HatSearch_hand_113 b_HatSearch_hand_248
          rw [c_10 (OUT_CC hO hC), wf_H hW, if_pos (nI_le (Nat.le_refl _) (by omega)), rk_in hg4 (by decide), rk_in hg4 (by decide), nI_clamp (by omega)]
          have : acc all A (fl (sg1 w y k f u) 0 (nH w)) = A := acc_nil hA'
          rw [this]
          obtain ⟨x1, x2, x3, x4⟩ := hX'
          refine ⟨_, rfl, fun c r1 r2 r3 r4 r5 => ?_, ⟨fun x hx => ?_, ?_, ?_, fun a B e x hx sx => ?_⟩, fun g' hg' => ?_, fun x hx => ?_⟩
          · rw [sD_nr _ _ _ r5, sD_nr _ _ _ r4, hO c r1 r2 r3 r4 r5]
          · rw [sD_ne _ _ _ _ (by decide), sD_ne _ _ _ _ (by decide), x1 x hx]
          · rw [sD_ne _ _ _ _ (by decide), sD_ne _ _ _ _ (by decide), x2]
          · rw [sD_ne _ _ _ _ (by decide), sD_ne _ _ _ _ (by decide), x3]
          · rw [sD_ne _ _ _ _ (by decide), sD_ne _ _ _ _ (by decide), x4 a B e x hx sx]
          · by_cases e : g' = g
            · subst e
              rw [sD_ne _ _ _ _ (by decide), sD_eq, sD_eq]
              exact ⟨rfl, rfl⟩
            · rw [sD_ne _ _ _ _ (by decide), sD_nj _ _ _ e, sD_nj _ _ _ e, sD_ne _ _ _ _ (by decide)]
              exact hR g' hg' e
          · rw [sD_ne _ _ _ _ (by decide), sD_ne _ _ _ _ (by decide), ht' x hx]
        | succ n ihn =>
          intro h hh j hj A X hO hX' hR ht' hA' hl'
          obtain ⟨j, rfl⟩ : ∃ g, j = g + 1 := ⟨j - 1, by omega⟩
          have hhH : h < nH w := by omega
          have hCX := OUT_CC hO hC
          rw [show g_HatSearch_hand_113 F (g_HatSearch_hand F m) (j + 1) = b_HatSearch_hand_113 F (g_HatSearch_hand F m) (g_HatSearch_hand_113 F (g_HatSearch_hand F m) j) from rfl]
          unfold b_HatSearch_hand_113
          rw [c_10 hCX, wf_H hW, if_neg (nI_ge hhH (by omega))]
          obtain ⟨x1, x2, x3, x4⟩ := hX'
          -- one more hat is tried
          have go : (all = true ∨ A = []) → ∃ D', b_HatSearch_hand_139 F (g_HatSearch_hand F m) (g_HatSearch_hand_113 F (g_HatSearch_hand F m) j) (nI p) (nI f) (nI g) (iI (lo g)) (iI (tp g)) (nI h) X = some D' ∧ OUT D D' ∧ XS w y all D' (acc all A (fl (sg1 w y k f u) (n + 1) h)) ∧ GX D' lo tp ∧ ∀ x, x < p → D' 53 x = D 53 x := fun hA2 => by
            rw [fl_s] at hl' ⊢
            rw [List.length_append] at hl'
            unfold b_HatSearch_hand_139
            rw [nb_bit (by omega) (by omega), nI_add]
            cases hb2 : f.testBit h
            · rw [if_neg (show ¬ false = true by decide), if_pos (show nI 0 = 0 from rfl)]
              have e0 : sg1 w y k f u h = [] := by
                unfold sg1
                rw [hb2, if_neg (by decide)]
              rw [e0, List.nil_append]
              exact ihn (h + 1) (by omega) j (by omega) A X hO ⟨x1, x2, x3, x4⟩ hR ht' hA' (by omega)
            · rw [if_pos rfl, if_neg (show ¬ nI 1 = 0 by decide)]
              have e0 : sg1 w y k f u h = sols w y k (nand f (2 ^ h)) (upd u p (nI h)) := by
                unfold sg1
                rw [if_pos hb2, hp]
              rw [e0] at hl' ⊢
              have hu1 : UOK w (upd u p (nI h)) := UOK_upd hu (Or.inr ⟨h, hhH, rfl⟩)
              have eH : Hu w y (upd u p (nI h)) p = bs w y p + ti w (88 + h) := by
                unfold Hu hv
                rw [upd_eq, if_neg (nI_m1 (by omega)), nI_clamp (by omega)]
              have hHb := bs_hv hW hy hu1 hpA
              have oth : ∀ x, x < p → Hu w y (upd u p (nI h)) x = Hu w y u x := fun x hx => by
                unfold Hu
                rw [upd_ne _ _ (by omega)]
              have e54 : X 54 p + X 31 h = iI (Hu w y (upd u p (nI h)) p) := by
                rw [x1 p hpA, c_31 hCX hhH, ti_at w (88 + h), iI_add, eH]
              simp (disch := omega) only [rk_in, nI_clamp, e54]
              generalize hHH : Hu w y (upd u p (nI h)) p = H at *
              rw [imn_iI (by omega) (by omega) (by omega) (by omega), imx_iI (by omega) (by omega) (by omega) (by omega)]
              -- the group's new ends
              have y1 : OUT X (sD (sD X 55 g (iI (min (lo g) H))) 56 g (iI (max (tp g) H))) := fun c r1 r2 r3 r4 r5 => by rw [sD_nr _ _ _ r5, sD_nr _ _ _ r4]
              have y51 : ∀ i, (sD (sD X 55 g (iI (min (lo g) H))) 56 g (iI (max (tp g) H))) 51 i = X 51 i := fun i => by rw [sD_ne _ _ _ _ (by decide), sD_ne _ _ _ _ (by decide)]
              have y52 : ∀ i, (sD (sD X 55 g (iI (min (lo g) H))) 56 g (iI (max (tp g) H))) 52 i = X 52 i := fun i => by rw [sD_ne _ _ _ _ (by decide), sD_ne _ _ _ _ (by decide)]
              have y53 : ∀ i, (sD (sD X 55 g (iI (min (lo g) H))) 56 g (iI (max (tp g) H))) 53 i = X 53 i := fun i => by rw [sD_ne _ _ _ _ (by decide), sD_ne _ _ _ _ (by decide)]
              have y55 : (sD (sD X 55 g (iI (min (lo g) H))) 56 g (iI (max (tp g) H))) 55 g = iI (min (lo g) H) := by rw [sD_ne _ _ _ _ (by decide), sD_eq]
              have y56 : (sD (sD X 55 g (iI (min (lo g) H))) 56 g (iI (max (tp g) H))) 56 g = iI (max (tp g) H) := sD_eq _ _ _ _
              have yo : ∀ g', g' < 4 → g' ≠ g → (sD (sD X 55 g (iI (min (lo g) H))) 56 g (iI (max (tp g) H))) 55 g' = iI (lo g') ∧ (sD (sD X 55 g (iI (min (lo g) H))) 56 g (iI (max (tp g) H))) 56 g' = iI (tp g') := fun g' hg' e => by
                rw [sD_ne _ _ _ _ (by decide), sD_nj _ _ _ e, sD_nj _ _ _ e, sD_ne _ _ _ _ (by decide)]
                exact hR g' hg' e
              generalize sD (sD X 55 g (iI (min (lo g) H))) 56 g (iI (max (tp g) H)) = Y at y1 y51 y52 y53 y55 y56 yo ⊢
              have hCY := OUT_CC y1 hCX
              have hOY := OUT_t hO y1
              have hXY : XS w y all Y A := ⟨fun x hx => by rw [y1 54 (by decide) (by decide) (by decide) (by decide) (by decide), x1 x hx], by rw [y51, x2], by rw [y51, x3], fun a B e x hx sx => by rw [y52, x4 a B e x hx sx]⟩
              rw [c_2 hCY, wf_V hW, y55, y56, iI_sub, iI_nI (nV w)]
              have cmp : iI (nV w) < iI (max (tp g) H - min (lo g) H) ↔ (nV w : Int) < max (tp g) H - min (lo g) H := iI_lt (by omega) (by omega) (by omega) (by omega)
              by_cases cut : (nV w : Int) < max (tp g) H - min (lo g) H
              · rw [if_pos (cmp.mpr cut)]
                have eno : sols w y k (nand f (2 ^ h)) (upd u p (nI h)) = [] := by
                  refine sols_no hW hy k _ _ (by omega) hu1 ?_
                  rcases q3 with ⟨e1, e2⟩ | ⟨a, b, a1, b1, sa, sb, ga, gb, ea, eb⟩
                  · omega
                  · by_cases c1 : tp g < H
                    · exact ⟨p, a, by omega, by omega, hs, sa, by rw [hgg, ga], by rw [hHH, oth a a1, ea]; omega⟩
                    · exact ⟨b, p, by omega, by omega, sb, hs, by rw [hgg, gb], by rw [hHH, oth b b1, eb]; omega⟩
                rw [eno, List.nil_append]
                exact ihn (h + 1) (by omega) j (by omega) A Y hOY hXY yo (fun x hx => by rw [y53, ht' x hx]) hA' (by omega)
              · rw [if_neg (fun z => cut (cmp.mp z)), nb_shl h (by omega), nb_not, nI_add]
                have hZC : OUT Y (sD Y 53 p (nI h)) := fun c r1 r2 r3 r4 r5 => sD_nr _ _ _ r3
                have hXZ : XS w y all (sD Y 53 p (nI h)) A := ⟨fun x hx => by rw [sD_ne _ _ _ _ (by decide)]; exact hXY.1 x hx, by rw [sD_ne _ _ _ _ (by decide)]; exact hXY.2.1, by rw [sD_ne _ _ _ _ (by decide)]; exact hXY.2.2.1, fun a B e x hx sx => by rw [sD_ne _ _ _ _ (by decide)]; exact hXY.2.2.2 a B e x hx sx⟩
                have epk : nA w - k = p + 1 := hpp
                obtain ⟨Z, z1, z2, z3, z4, z5⟩ := ih (nand f (2 ^ h)) (upd u p (nI h)) A (sD Y 53 p (nI h)) (fun g' => if g' = g then min (lo g) H else lo g') (fun g' => if g' = g then max (tp g) H else tp g') (by omega) (by omega) (OUT_CC hZC hCY) hXZ (fun g' hg' => by
                  rw [sD_ne _ _ _ _ (by decide), sD_ne _ _ _ _ (by decide)]
                  by_cases e : g' = g
                  · subst e
                    dsimp only
                    rw [if_pos rfl, if_pos rfl]
                    exact ⟨y55, y56⟩
                  · dsimp only
                    rw [if_neg e, if_neg e]
                    exact yo g' hg' e) (fun g' hg' => by
                  rw [epk]
                  by_cases e : g' = g
                  · subst e
                    dsimp only
                    rw [if_pos rfl, if_pos rfl]
                    refine ⟨by omega, fun x hx sx ex => ?_, Or.inr ?_⟩
                    · by_cases e : x = p
                      · rw [e, hHH]
                        exact ⟨Int.min_le_right _ _, Int.le_max_right _ _⟩
                      · have := q2 x (by omega) sx ex
                        rw [oth x (by omega)]
                        omega
                    · rcases q3 with ⟨e1, e2⟩ | ⟨a, b, a1, b1, sa, sb, ga, gb, ea, eb⟩
                      · exact ⟨p, p, by omega, by omega, hs, hs, hgg, hgg, by omega, by omega⟩
                      · obtain ⟨a', a2, a3, a4, a5⟩ : ∃ a', a' < p + 1 ∧ st w a' = true ∧ grp w a' = g' ∧ Hu w y (upd u p (nI h)) a' = min (lo g') H := by
                          by_cases c1 : lo g' ≤ H
                          · exact ⟨a, by omega, sa, ga, by rw [oth a a1]; omega⟩
                          · exact ⟨p, by omega, hs, hgg, by omega⟩
                        obtain ⟨b', b2, b3, b4, b5⟩ : ∃ b', b' < p + 1 ∧ st w b' = true ∧ grp w b' = g' ∧ Hu w y (upd u p (nI h)) b' = max (tp g') H := by
                          by_cases c1 : H ≤ tp g'
                          · exact ⟨b, by omega, sb, gb, by rw [oth b b1]; omega⟩
                          · exact ⟨p, by omega, hs, hgg, by omega⟩
                        exact ⟨a', b', a2, b2, a3, b3, a4, b4, a5, b5⟩
                  · dsimp only
                    rw [if_neg e, if_neg e]
                    obtain ⟨v1, v2, v3⟩ := hE g' hg'
                    refine ⟨v1, fun x hx sx ex => ?_, v3.imp id ?_⟩
                    · have : x ≠ p := fun z => e (by rw [← ex, z, hgg])
                      rw [oth x (by omega)]
                      exact v2 x (by omega) sx ex
                    · rintro ⟨a, b, a1, b1, sa, sb, ga, gb, ea, eb⟩
                      exact ⟨a, b, by omega, by omega, sa, sb, ga, gb, by rw [oth a a1]; exact ea, by rw [oth b b1]; exact eb⟩) hu1 (fun x hx sx => by
                  by_cases e : x = p
                  · subst e
                    rw [sD_eq, upd_eq]
                  · rw [sD_nj _ _ _ e, upd_ne _ _ e, y53, ht' x (by omega), ht x (by omega) sx]) (nand_256 hf) hA2 (by omega)
                rw [epk] at z1 z5
                rw [z1, ob_some]
                have hO3 := OUT_t hOY (OUT_t hZC z2)
                have := ihn (h + 1) (by omega) j (by omega) (acc all A (sols w y k (nand f (2 ^ h)) (upd u p (nI h)))) Z hO3 z3 (fun g' hg' e => by
                  have := z4 g' hg'
                  dsimp only at this
                  rw [if_neg e, if_neg e] at this
                  exact this) (fun x hx => by rw [z5 x (by omega), sD_nj _ _ _ (by omega), y53, ht' x hx]) (acc_one all hA' _) (by
                  have := acc_le all A (sols w y k (nand f (2 ^ h)) (upd u p (nI h)))
                  omega)
                rw [acc_acc] at this
                exact this
          rw [x2]
          cases hall : all
          · rw [if_pos (show b01 false = 0 from rfl), x3]
            rw [hall] at hA' go
            have hl1 : A.length ≤ 1 := hA'.resolve_left (by decide)
            have hz := nI_z A.length (by omega)
            by_cases c : A.length = 0
            · rw [if_pos (hz.mpr c)]
              exact go (Or.inr (List.eq_nil_of_length_eq_zero c))
            · rw [if_neg (fun z => c (hz.mp z)), acc_full (by omega)]
              unfold b_HatSearch_hand_248
              rw [rk_in hg4 (by decide), rk_in hg4 (by decide), nI_clamp (by omega)]
              refine ⟨_, rfl, fun c r1 r2 r3 r4 r5 => ?_, ⟨fun x hx => ?_, ?_, ?_, fun a B e x hx sx => ?_⟩, fun g' hg' => ?_, fun x hx => ?_⟩
              · rw [sD_nr _ _ _ r5, sD_nr _ _ _ r4, hO c r1 r2 r3 r4 r5]
              · rw [sD_ne _ _ _ _ (by decide), sD_ne _ _ _ _ (by decide), x1 x hx]
              · rw [sD_ne _ _ _ _ (by decide), sD_ne _ _ _ _ (by decide), x2, hall]
              · rw [sD_ne _ _ _ _ (by decide), sD_ne _ _ _ _ (by decide), x3]
              · rw [sD_ne _ _ _ _ (by decide), sD_ne _ _ _ _ (by decide), x4 a B e x hx sx]
              · by_cases e : g' = g
                · subst e
                  rw [sD_ne _ _ _ _ (by decide), sD_eq, sD_eq]
                  exact ⟨rfl, rfl⟩
                · rw [sD_ne _ _ _ _ (by decide), sD_nj _ _ _ e, sD_nj _ _ _ e, sD_ne _ _ _ _ (by decide)]
                  exact hR g' hg' e
              · rw [sD_ne _ _ _ _ (by decide), sD_ne _ _ _ _ (by decide), ht' x hx]
          · rw [if_neg (show ¬ b01 true = 0 by decide)]
            rw [hall] at go
            exact go (Or.inl rfl)
      exact try_ (nH w) 0 (Nat.zero_add _) F (by omega) A D (fun _ _ _ _ _ _ => rfl) hX (fun g' hg' _ => hG g' hg') (fun _ _ => rfl) (hA.imp id (fun e => by rw [e]; exact Nat.zero_le 1)) hl
end HC
