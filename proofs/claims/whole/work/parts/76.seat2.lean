/-! ===== seat ===== -/
section S2
variable {D : mx_D} {E : mx_E} {w w' : W_} {F : Nat}
theorem sea_sea (w : W_) (x : Nat) (a b c d : Int32) : sea (sea w x a b) x c d = sea w x c d := by
  funext i
  by_cases h3 : i = 40 + 6 * x + 3
  · rw [h3, sea_3, sea_3]
  · by_cases h4 : i = 40 + 6 * x + 4
    · rw [h4, sea_4, sea_4]
    · rw [sea_n _ _ _ _ ⟨h3, h4⟩, sea_n _ _ _ _ ⟨h3, h4⟩, sea_n _ _ _ _ ⟨h3, h4⟩]
theorem sea_same (w : W_) (x : Nat) : sea w x (w (40 + 6 * x + 3)) (w (40 + 6 * x + 4)) = w := by
  funext i
  by_cases h3 : i = 40 + 6 * x + 3
  · rw [h3, sea_3]
  · by_cases h4 : i = 40 + 6 * x + 4
    · rw [h4, sea_4]
    · rw [sea_n _ _ _ _ ⟨h3, h4⟩]
theorem hi_sea (hW : WF w) {x p i : Nat} (hx : x < nA w) (hp : p < nP w) (hi0 : i < nL w) {z : Nat} (hz : z < nA w) (y : Nat) : hi (sea w x (nI p) (nI i)) y z = if z = x then bod w y x + flo w p i else hi w y z := by
  have h4 := wf_P4 hW
  have h5 := wf_L5 hW
  have h8 := wf_A8 hW
  have n : ∀ k, (k < 40 ∨ 88 ≤ k) → sea w x (nI p) (nI i) k = w k := fun k hk => sea_n _ _ _ _ (by omega)
  have eb := bod_c (w' := sea w x (nI p) (nI i)) hW hz (n _ (by omega)) (sea_n _ _ _ _ (by omega)) (sea_n _ _ _ _ (by omega)) (sea_n _ _ _ _ (by omega)) (sea_n _ _ _ _ (by omega)) (fun i q1 q2 => n _ (by omega)) y
  have ef : ∀ p' i', p' < 4 → i' < 5 → flo (sea w x (nI p) (nI i)) p' i' = flo w p' i' := fun p' i' hp hi => by
    unfold flo
    rw [ti_c (n _ (by omega)), ti_c (n _ (by omega)), ti_c (n _ (by omega))]
  have main : hi (sea w x (nI p) (nI i)) y z = bod w y z + (if st (sea w x (nI p) (nI i)) z = true then flo (sea w x (nI p) (nI i)) (pw (sea w x (nI p) (nI i)) z) (pc (sea w x (nI p) (nI i)) z) else 0) := by
    rw [← eb]
    rfl
  rw [main]
  by_cases c : z = x
  · subst c
    have s1 : st (sea w z (nI p) (nI i)) z = true := by unfold st; rw [sea_3]; exact decide_eq_true (nI_m1 (by omega))
    have s2 : pw (sea w z (nI p) (nI i)) z = p := by unfold pw; rw [sea_3, nI_clamp (by omega)]
    have s3 : pc (sea w z (nI p) (nI i)) z = i := by unfold pc; rw [sea_4, nI_clamp (by omega)]
    rw [s1, s2, s3, if_pos rfl, if_pos rfl, ef _ _ (by omega) (by omega)]
  · have s1 : st (sea w x (nI p) (nI i)) z = st w z := by unfold st; rw [sea_n _ _ _ _ (by omega)]
    have s2 : pw (sea w x (nI p) (nI i)) z = pw w z := by unfold pw; rw [sea_n _ _ _ _ (by omega)]
    have s3 : pc (sea w x (nI p) (nI i)) z = pc w z := by unfold pc; rw [sea_n _ _ _ _ (by omega)]
    rw [s1, s2, s3, if_neg c]
    cases hs : st w z
    · unfold hi
      rw [hs, if_neg (by decide), if_neg (by decide)]
    · obtain ⟨z1, z2, z3, z4⟩ := wf_sit hW hz hs
      rw [if_pos rfl, ef _ _ (by omega) (by omega)]
      unfold hi
      rw [hs, if_pos rfl]
theorem two_tb (x i : Nat) : (2 ^ x).testBit i = decide (x = i) := Nat.testBit_two_pow
theorem sM_sea (hW : WF w) {x p i : Nat} (hx : x < nA w) (hp : p < 4) : sM (sea w x (nI p) (nI i)) = nand (sM w) (2 ^ x) ||| 2 ^ x := by
  have eA := (sea_A w x (nI p) (nI i)).1
  apply Nat.eq_of_testBit_eq
  intro z
  unfold sM
  rw [eA, mk_tb, Nat.testBit_or, nand_tb, mk_tb, two_tb]
  by_cases c : x = z
  · subst c
    have s1 : st (sea w x (nI p) (nI i)) x = true := by unfold st; rw [sea_3]; exact decide_eq_true (nI_m1 (by omega))
    rw [s1, decide_eq_true hx]
    simp
  · have s1 : st (sea w x (nI p) (nI i)) z = st w z := by unfold st; rw [sea_n _ _ _ _ (by omega)]
    rw [s1, decide_eq_false c]
    simp
theorem pM_sea (hW : WF w) {x p i : Nat} (hx : x < nA w) (hp : p < 4) {q : Nat} (hq : q < 4) : pM (sea w x (nI p) (nI i)) q = nand (pM w q) (2 ^ x) ||| (if q = p then 2 ^ x else 0) := by
  have eA := (sea_A w x (nI p) (nI i)).1
  apply Nat.eq_of_testBit_eq
  intro z
  unfold pM
  rw [eA, mk_tb, Nat.testBit_or, nand_tb, mk_tb, two_tb]
  by_cases c : x = z
  · subst c
    rw [sea_3, decide_eq_true hx]
    by_cases c2 : q = p
    · rw [if_pos c2, c2, two_tb]
      simp
    · rw [if_neg c2, decide_eq_false (fun e => c2 ((nI_eq (by omega) (by omega)).mp e).symm)]
      simp
  · rw [sea_n _ _ _ _ (by omega), decide_eq_false c]
    have : (if q = p then 2 ^ x else 0).testBit z = false := by
      split
      · rw [two_tb, decide_eq_false c]
      · exact Nat.zero_testBit z
    rw [this]
    simp
theorem nand_or (a b : Nat) : nand (nand a b ||| b) b = nand a b := by
  apply Nat.eq_of_testBit_eq
  intro i
  rw [nand_tb, Nat.testBit_or, nand_tb]
  cases a.testBit i <;> cases b.testBit i <;> rfl
theorem nand_nand (a b : Nat) : nand (nand a b ||| 0) b = nand a b := by
  apply Nat.eq_of_testBit_eq
  intro i
  rw [nand_tb, Nat.testBit_or, nand_tb, Nat.zero_testBit]
  cases a.testBit i <;> cases b.testBit i <;> rfl
def stq (w : W_) (y x p i : Nat) : Bool := decide (sat w (nI p) (nI i) = -1) && lev (sea w x (nI p) (nI i)) y
/-- the first seat of n from a on (pew a / places, place a % places) -/
def fsf (w : W_) (y x : Nat) : Nat → Nat → Int32
  | 0, _ => -1
  | n + 1, a => if stq w y x (a / nL w) (a % nL w) = true then nI (100 * (a / nL w) + a % nL w) else fsf w y x n (a + 1)
def seaq (w : W_) (a b : Int32) : Int32 := if vx a (nA w) && (decide (0 < nP w) && vx b 31) then fsf w b.toNatClampNeg a.toNatClampNeg (nP w * nL w) 0 else -2
theorem dm1 {p n i : Nat} (hi : i < n) : (p * n + i) / n = p := by
  rw [Nat.mul_comm, Nat.mul_add_div (by omega), Nat.div_eq_of_lt hi, Nat.add_zero]
theorem dm2 {p n i : Nat} (hi : i < n) : (p * n + i) % n = i := by
  rw [Nat.mul_comm, Nat.mul_add_mod, Nat.mod_eq_of_lt hi]
theorem m_seat (hF : 1000 ≤ F) (hW : WF (D 117)) (a b : Int32) : ∃ D1, g_M_seat F a b D = some (seaq (D 117) a b, D1) ∧ FM D D1 := by
  have h8 := wf_A8 hW
  have h4 := wf_P4 hW
  have h5 := wf_L5 hW
  unfold g_M_seat seaq
  rw [M_isPerson_s hW, M_isYear_s hW, b01_if, b01_if]
  rcases vx_c a (nA (D 117)) (by omega) with q | ⟨x, hx, rfl⟩
  · rw [q]
    exact ⟨_, rfl, FM_r D⟩
  · rw [vx_nI (by omega), decide_eq_true hx, if_pos rfl, Bool.true_and]
    cases hq : decide (0 < nP (D 117)) && vx b 31
    · exact ⟨_, rfl, FM_r D⟩
    · simp only [Bool.and_eq_true, decide_eq_true_eq] at hq
      obtain ⟨y, hy, rfl⟩ := vx_of (by decide) hq.2
      have hL := (wf_PL hW).mp hq.1
      rw [if_pos rfl, if_pos rfl, M_of_s D (by omega) (by decide), ob_some, M_of_s D (by omega) (by decide), ob_some, nI_clamp (by omega), nI_clamp (by omega)]
      have hPL : nP (D 117) * nL (D 117) ≤ 20 := Nat.le_trans (Nat.mul_le_mul h4 h5) (by decide)
      have key : ∀ (k f n : Nat) (s : mx_D), n + k = nP (D 117) * nL (D 117) → k + 1 < f → FM D s → ∃ D1, g_M_seat_40 F f (nI x) (nI y) (D 117 (40 + 6 * x + 3)) (D 117 (40 + 6 * x + 4)) (-1) (nI n) s = some (fsf (D 117) y x k n, D1) ∧ FM D D1 := by
        intro k
        induction k with
        | zero =>
          intro f n s hn hf hI
          obtain ⟨f, rfl⟩ : ∃ g, f = g + 1 := ⟨f - 1, by omega⟩
          have es := hI.2.1.1
          rw [s_M_seat_40]
          unfold b_M_seat_40
          rw [es, wf_P hW, wf_L hW, pk_mul, if_pos (nI_le (by omega) (by omega))]
          exact ⟨s, rfl, hI⟩
        | succ k ih =>
          intro f n s hn hf hI
          obtain ⟨f, rfl⟩ : ∃ g, f = g + 1 := ⟨f - 1, by omega⟩
          have es := hI.2.1.1
          have hs : WF (s 117) := by rw [es]; exact hW
          have hnl : n < nP (D 117) * nL (D 117) := by omega
          have hd : n / nL (D 117) < nP (D 117) := Nat.div_lt_of_lt_mul (by rw [Nat.mul_comm]; exact hnl)
          have hm : n % nL (D 117) < nL (D 117) := Nat.mod_lt _ hL
          have ef : fsf (D 117) y x (k + 1) n = if stq (D 117) y x (n / nL (D 117)) (n % nL (D 117)) = true then nI (100 * (n / nL (D 117)) + n % nL (D 117)) else fsf (D 117) y x k (n + 1) := rfl
          have hdk : ∀ K : Option (Int32 × mx_D), dk (nI (nL (D 117))) K = K := fun K => by
            unfold dk
            rw [if_neg (nI_ne0 hL (by omega))]
          rw [s_M_seat_40]
          unfold b_M_seat_40
          rw [es, wf_P hW, wf_L hW, pk_mul, if_neg (nI_ge hnl (by omega)), if_pos rfl, pk_rem (by omega) hL (by omega), pk_div (by omega) hL (by omega), hdk, hdk, M_sitterAt_s (by omega) hs, ob_some, es, nI_add, ef]
          unfold stq
          by_cases c : sat (D 117) (nI (n / nL (D 117))) (nI (n % nL (D 117))) = -1
          · rw [if_pos c, decide_eq_true c, Bool.true_and, M_put_s (by omega), ob_some]
            have e1 := put_117 es x (nI (n / nL (D 117))) (nI (n % nL (D 117)))
            have w1 : WF (sea (D 117) x (nI (n / nL (D 117))) (nI (n % nL (D 117)))) := WF_sea hW hx (Or.inr ⟨_, _, hd, hm, rfl, rfl⟩)
            obtain ⟨D1, l1, l2, l3⟩ := M_isLevel_s (F := F) (by omega) (show WF (sD (sD s 117 (40 + 6 * x + 3) (nI (n / nL (D 117)))) 117 (40 + 6 * x + 4) (nI (n % nL (D 117))) 117) by rw [e1]; exact w1) (y := y) (by omega)
            rw [e1] at l1
            have e2 : D1 117 = sea (D 117) x (nI (n / nL (D 117))) (nI (n % nL (D 117))) := by rw [l2 117 (by decide), e1]
            have e3 := put_117 e2 x (D 117 (40 + 6 * x + 3)) (D 117 (40 + 6 * x + 4))
            rw [sea_sea, sea_same] at e3
            have f3 : FM D (sD (sD D1 117 (40 + 6 * x + 3) (D 117 (40 + 6 * x + 3))) 117 (40 + 6 * x + 4) (D 117 (40 + 6 * x + 4))) := FM_W (FW_t (FW_M hI) (FW_t (FW_117 (fun c hc => by rw [sD_nr _ _ _ hc, sD_nr _ _ _ hc])) (FW_t (FW_M (FM_123 l2)) (FW_117 (fun c hc => by rw [sD_nr _ _ _ hc, sD_nr _ _ _ hc]))))) e3
            rw [l1, ob_some, M_put_s (by omega), ob_some, ob_some, b01_if, pk_mul, nI_add]
            cases lev (sea (D 117) x (nI (n / nL (D 117))) (nI (n % nL (D 117)))) y
            · rw [if_neg (by decide), if_neg (by decide)]
              exact ih f (n + 1) _ (by omega) (by omega) f3
            · rw [if_pos rfl, if_pos rfl]
              obtain ⟨f, rfl⟩ : ∃ g, f = g + 1 := ⟨f - 1, by omega⟩
              rw [s_M_seat_40]
              unfold b_M_seat_40
              rw [if_neg (show ¬ nI (100 * (n / nL (D 117)) + n % nL (D 117)) = -1 from nI_m1 (by omega))]
              split
              · exact ⟨_, rfl, f3⟩
              · exact ⟨_, rfl, f3⟩
          · rw [if_neg c, decide_eq_false c, Bool.false_and, if_neg (by decide)]
            exact ih f (n + 1) s (by omega) (by omega) hI
      exact key (nP (D 117) * nL (D 117)) F 0 D (by omega) (by omega) (FM_r D)
theorem x_seat (hF : 1000 ≤ F) (hC : CC D w) (hW : WF w) (a b : Int32) : ∃ D1, g_X_seat F a b D = some (seaq w a b, D1) ∧ FX D D1 := by
  have h8 := wf_A8 hW
  have h4 := wf_P4 hW
  have h5 := wf_L5 hW
  unfold g_X_seat seaq
  rw [X_canAsk_s hC hW, C_hasPerson_s hC hW, b01_if, b01_if]
  cases hq : decide (0 < nP w) && vx b 31
  · rw [Bool.and_false]
    exact ⟨_, rfl, FX_r D⟩
  · rw [Bool.and_true, if_pos rfl]
    rcases vx_c a (nA w) (by omega) with q | ⟨x, hx, rfl⟩
    · rw [q]
      exact ⟨_, rfl, FX_r D⟩
    · simp only [Bool.and_eq_true, decide_eq_true_eq] at hq
      obtain ⟨y, hy, rfl⟩ := vx_of (by decide) hq.2
      have hL := (wf_PL hW).mp hq.1
      obtain ⟨D1, h1, h2, h3⟩ := H_take_s (F := F) (by omega) hC hW y
      obtain ⟨D2, d1, d2, d3⟩ := H_drop_s (F := F) (by omega) (x := x) (by omega) h3
      have hc2 : CC D2 w := CC_of hC (fun c hc => by rw [d2 c (by omega) (by omega), h2 c (by omega)])
      rw [vx_nI (by omega), decide_eq_true hx, if_pos rfl, if_pos rfl, nI_clamp (by omega), nI_clamp (by omega), h1, ob_some, d1, ob_some, C_standing_s (by omega) hc2 hW hx, ob_some]
      have base : ∀ u, (∃ v : Int, FX D u ∧ HT u (nA w) (fun z => if z = x then v else hi w y z) (fun q => nand (pM w q) (2 ^ x)) (nand (sM w) (2 ^ x)) (ba w)) → CC u w := fun u hu => by
        obtain ⟨v, hu, -⟩ := hu
        exact CC_of hC (fun c hc => hu c (by omega))
      have key : ∀ (r f p : Nat) (u : mx_D), p + r = nP w → r < f → (∃ v : Int, FX D u ∧ HT u (nA w) (fun z => if z = x then v else hi w y z) (fun q => nand (pM w q) (2 ^ x)) (nand (sM w) (2 ^ x)) (ba w)) → ∃ D1, g_X_seat_55 F f (nI x) (iI (bod w y x)) (nI p) u = some (fsf w y x (nP w * nL w - p * nL w) (p * nL w), D1) ∧ FX D D1 := by
        intro r
        induction r with
        | zero =>
          intro f p u hp hf hu
          obtain ⟨f, rfl⟩ : ∃ g, f = g + 1 := ⟨f - 1, by omega⟩
          obtain rfl : p = nP w := by omega
          have hcu := base u hu
          rw [s_X_seat_55]
          unfold b_X_seat_55
          rw [c_0 hcu, wf_P hW, if_pos (nI_le (Nat.le_refl _) (by omega)), Nat.sub_self]
          obtain ⟨v, hv, -⟩ := hu
          exact ⟨u, rfl, hv⟩
        | succ r ihr =>
          intro f p u hp hf hu
          obtain ⟨f, rfl⟩ : ∃ g, f = g + 1 := ⟨f - 1, by omega⟩
          have hpp : p < nP w := by omega
          have inner : ∀ (k g i : Nat) (u : mx_D), i + k = nL w → k < g → (∃ v : Int, FX D u ∧ HT u (nA w) (fun z => if z = x then v else hi w y z) (fun q => nand (pM w q) (2 ^ x)) (nand (sM w) (2 ^ x)) (ba w)) → ∃ D1, g_X_seat_70 F (g_X_seat_55 F f) g (nI x) (iI (bod w y x)) (nI p) (nI i) u = some (fsf w y x (nP w * nL w - (p * nL w + i)) (p * nL w + i), D1) ∧ FX D D1 := by
            intro k
            induction k with
            | zero =>
              intro g i u hi hg hu
              obtain ⟨g, rfl⟩ : ∃ z, g = z + 1 := ⟨g - 1, by omega⟩
              obtain rfl : i = nL w := by omega
              have hcu := base u hu
              rw [s_X_seat_70]
              unfold b_X_seat_70
              rw [c_1 hcu, wf_L hW, if_pos (nI_le (Nat.le_refl _) (by omega)), nI_add]
              have := ihr f (p + 1) u (by omega) (by omega) hu
              rw [Nat.add_mul, Nat.one_mul] at this
              exact this
            | succ k ih =>
              intro g i u hi0 hg hu
              obtain ⟨g, rfl⟩ : ∃ z, g = z + 1 := ⟨g - 1, by omega⟩
              have hiL : i < nL w := by omega
              have hcu := base u hu
              have hlt : p * nL w + i < nP w * nL w := by
                have : (p + 1) * nL w ≤ nP w * nL w := Nat.mul_le_mul_right _ hpp
                rw [Nat.add_mul, Nat.one_mul] at this
                omega
              have ef : fsf w y x (nP w * nL w - (p * nL w + i)) (p * nL w + i) = if stq w y x p i = true then nI (100 * p + i) else fsf w y x (nP w * nL w - (p * nL w + (i + 1))) (p * nL w + (i + 1)) := by
                rw [show nP w * nL w - (p * nL w + i) = (nP w * nL w - (p * nL w + (i + 1))) + 1 by omega]
                show (if stq w y x ((p * nL w + i) / nL w) ((p * nL w + i) % nL w) = true then nI (100 * ((p * nL w + i) / nL w) + (p * nL w + i) % nL w) else fsf w y x _ (p * nL w + i + 1)) = _
                rw [dm1 hiL, dm2 hiL, Nat.add_assoc]
              rw [s_X_seat_70]
              unfold b_X_seat_70
              rw [c_1 hcu, wf_L hW, if_neg (nI_ge hiL (by omega)), C_sitterAt_s (by omega) hcu hW (by omega), ob_some, nI_add, ef]
              unfold stq
              by_cases c : sat w (nI p) (nI i) = -1
              · obtain ⟨v, hv, hT⟩ := hu
                obtain ⟨D3, p1, p2, p3, p4, p5⟩ := H_put_s (x := x) (p := p) (by omega) (by omega) (iI (bod w y x + flo w p i)) u
                have eA := sea_A w x (nI p) (nI i)
                have w1 : WF (sea w x (nI p) (nI i)) := WF_sea hW hx (Or.inr ⟨_, _, hpp, hiL, rfl, rfl⟩)
                have eb : ba (sea w x (nI p) (nI i)) = ba w := by unfold ba; rw [sea_n _ _ _ _ (by omega)]
                have eV : nV (sea w x (nI p) (nI i)) = nV w := by unfold nV; rw [sea_n _ _ _ _ (by omega)]
                have hT3 : HT D3 (nA w) (hi (sea w x (nI p) (nI i)) y) (pM (sea w x (nI p) (nI i))) (sM (sea w x (nI p) (nI i))) (ba w) := by
                  refine ⟨fun z hz => ?_, fun q hq => ?_, ?_, ?_⟩
                  · rw [p3, hi_sea hW hx hpp hiL hz]
                    by_cases e : z = x
                    · rw [e, upd_eq, if_pos rfl]
                    · rw [upd_ne _ _ e, hT.1 z hz]
                      show iI (if z = x then v else hi w y z) = _
                      rw [if_neg e, if_neg e]
                  · rw [p4, pM_sea hW hx (by omega) hq]
                    by_cases e : q = p
                    · rw [e, upd_eq, if_pos rfl, hT.2.1 p (by omega), nb_or]
                    · rw [upd_ne _ _ e, hT.2.1 q hq, if_neg e, Nat.or_zero]
                  · rw [p5, upd_eq, hT.2.2.1, nb_or, sM_sea hW hx (by omega)]
                  · rw [p5, upd_ne _ _ (by decide)]
                    exact hT.2.2.2
                have hc3 : CC D3 w := CC_of hcu (fun c hc => p2 c (by omega))
                have hal := X_allAreLevel_s (F := F) (by omega) hc3 hW h8 hT3 (by rw [← eA.1]; exact hi_r w1 (by omega)) (by rw [← eA.1]; exact sub_sM _)
                have hlev : decide (apa (hi (sea w x (nI p) (nI i)) y) (pM (sea w x (nI p) (nI i))) (ba w) (sM (sea w x (nI p) (nI i))) ≤ nV w) = lev (sea w x (nI p) (nI i)) y := by
                  unfold lev
                  rw [eb, eV]
                rw [hlev] at hal
                rw [if_pos c, decide_eq_true c, Bool.true_and, C_floorAt_s hcu hW hpp hiL, ob_some, iI_add, p1, ob_some, hal, ob_some, b01_if, pk_mul, nI_add]
                have hfx : FX D D3 := FX_t hv (FX_h p2)
                cases lev (sea w x (nI p) (nI i)) y
                · obtain ⟨D4, q1, q2, q3⟩ := H_drop_s (F := F) (by omega) (x := x) (by omega) hT3
                  rw [if_neg (by decide), if_neg (by decide), q1, ob_some]
                  refine ih g (i + 1) D4 (by omega) (by omega) ⟨bod w y x + flo w p i, FX_t hfx (fun c hc => q2 c (by omega) (by omega)), ?_⟩
                  refine ⟨fun z hz => ?_, fun q hq => ?_, ?_, q3.2.2.2⟩
                  · rw [q3.1 z hz, hi_sea hW hx hpp hiL hz]
                  · rw [q3.2.1 q hq]
                    show nI (nand (pM (sea w x (nI p) (nI i)) q) (2 ^ x)) = nI (nand (pM w q) (2 ^ x))
                    rw [pM_sea hW hx (by omega) hq]
                    by_cases e : q = p
                    · rw [if_pos e, nand_or]
                    · rw [if_neg e, nand_nand]
                  · rw [q3.2.2.1, sM_sea hW hx (by omega), nand_or]
                · rw [if_pos rfl, if_pos rfl]
                  exact ⟨D3, rfl, hfx⟩
              · rw [if_neg c, decide_eq_false c, Bool.false_and, if_neg (by decide)]
                exact ih g (i + 1) u (by omega) (by omega) hu
          have hcu := base u hu
          have q := inner (nL w) F 0 u (by omega) (by omega) hu
          rw [s_X_seat_55]
          unfold b_X_seat_55
          rw [c_0 hcu, wf_P hW, if_neg (nI_ge hpp (by omega))]
          rw [Nat.add_zero] at q
          exact q
      have q := key (nP w) F 0 D2 (by omega) (by omega) ⟨hi w y x, fun c hc => by rw [d2 c (by omega) (by omega), h2 c (by omega)], HT_c d3 (fun z hz => by
        by_cases e : z = x
        · rw [if_pos e, e]
        · rw [if_neg e])⟩
      rw [Nat.zero_mul, Nat.sub_zero] at q
      exact q
end S2
