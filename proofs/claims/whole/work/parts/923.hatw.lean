/-! ===== hats: all the ways to hand them ===== -/
section HW
variable {F : Nat} {D : mx_D} {E : mx_E} {w : W_}
abbrev UU := Nat → Int32
/-- the world with the hats as u has them -/
def wu (w : W_) (u : UU) : W_ := fun i => if 45 ≤ i ∧ i < 93 ∧ (i - 45) % 6 = 0 ∧ i < 88 then u ((i - 45) / 6) else w i
theorem wu_5 (w : W_) (u : UU) {x : Nat} (hx : x < 8) : wu w u (40 + 6 * x + 5) = u x := by
  unfold wu
  rw [if_pos (by omega)]
  congr 1
  omega
theorem wu_n (w : W_) (u : UU) {i : Nat} (h : i < 40 ∨ 88 ≤ i) : wu w u i = w i := by
  unfold wu
  rw [if_neg (by omega)]
theorem wu_k (w : W_) (u : UU) {x k : Nat} (hk : k < 5) : wu w u (40 + 6 * x + k) = w (40 + 6 * x + k) := by
  unfold wu
  rw [if_neg (by omega)]
theorem wu_upd (w : W_) (u : UU) {x : Nat} (hx : x < 8) (v : Int32) : upd (wu w u) (40 + 6 * x + 5) v = wu w (upd u x v) := by
  funext i
  by_cases e : i = 40 + 6 * x + 5
  · subst e
    rw [upd_eq, wu_5 _ _ hx, upd_eq]
  · rw [upd_ne _ _ e]
    unfold wu
    by_cases c : 45 ≤ i ∧ i < 93 ∧ (i - 45) % 6 = 0 ∧ i < 88
    · rw [if_pos c, if_pos c, upd_ne _ _ (by omega)]
    · rw [if_neg c, if_neg c]
theorem wu_self (w : W_) : wu w (fun x => w (40 + 6 * x + 5)) = w := by
  funext i
  unfold wu
  by_cases c : 45 ≤ i ∧ i < 93 ∧ (i - 45) % 6 = 0 ∧ i < 88
  · rw [if_pos c]
    show w (40 + 6 * ((i - 45) / 6) + 5) = w i
    rw [show 40 + 6 * ((i - 45) / 6) + 5 = i by omega]
  · rw [if_neg c]
def UOK (w : W_) (u : UU) : Prop := ∀ x, x < nA w → u x = -1 ∨ ∃ j, j < nH w ∧ u x = nI j
theorem wu_cnt (w : W_) (u : UU) : nP (wu w u) = nP w ∧ nL (wu w u) = nL w ∧ nV (wu w u) = nV w ∧ nA (wu w u) = nA w ∧ nH (wu w u) = nH w ∧ nB (wu w u) = nB w ∧ nN (wu w u) = nN w := n_c (fun i hi => wu_n w u (by omega))
theorem WF_wu (hW : WF w) {u : UU} (hu : UOK w u) : WF (wu w u) := by
  have h8 := wf_A8 hW
  have h9 := wf_H8 hW
  refine WF_mk hW (fun i hi => wu_n _ _ (by omega)) (h1_c hW (fun i q1 q2 => wu_n _ _ (by omega))) (h2_c hW (fun i q1 q2 => wu_n _ _ (by omega))) (fun z hz => ⟨wu_k _ _ (k := 0) (by omega), wu_k _ _ (by omega), wu_k _ _ (by omega)⟩) (fun z hz => h4_c hW hz (wu_k _ _ (by omega)) (wu_k _ _ (by omega))) (fun z hz => ?_) (fun z hz => wu_n _ _ (by omega)) (fun b hb => wu_n _ _ (by omega)) (fun b hb => h8_c hW hb (wu_n _ _ (by omega)))
  unfold ht
  rw [wu_5 _ _ (by omega)]
  rcases hu z hz with q | ⟨j, hj, q⟩
  · exact Or.inl q
  · rw [q]
    exact Or.inr ⟨by rw [nI_clamp (by omega)], by rw [nI_clamp (by omega)]; exact hj⟩
def hv (w : W_) (v : Int32) : Int := if v = -1 then 0 else ti w (88 + v.toNatClampNeg)
def bs (w : W_) (y x : Nat) : Int := hi w y x - hat w x
def Hu (w : W_) (y : Nat) (u : UU) (x : Nat) : Int := bs w y x + hv w (u x)
theorem hi_wu (hW : WF w) (u : UU) {y x : Nat} (hx : x < nA w) : hi (wu w u) y x = Hu w y u x := by
  have h8 := wf_A8 hW
  have h4 := wf_P4 hW
  have h5 := wf_L5 hW
  have e3 : wu w u (40 + 6 * x + 3) = w (40 + 6 * x + 3) := wu_k _ _ (by omega)
  have e4 : wu w u (40 + 6 * x + 4) = w (40 + 6 * x + 4) := wu_k _ _ (by omega)
  have es : st (wu w u) x = st w x := by unfold st; rw [e3]
  have ep : pw (wu w u) x = pw w x := by unfold pw; rw [e3]
  have ec : pc (wu w u) x = pc w x := by unfold pc; rw [e4]
  have et : ∀ i, (i < 40 ∨ 88 ≤ i) → ti (wu w u) i = ti w i := fun i h => ti_c (wu_n w u h)
  have eh : hat (wu w u) x = hv w (u x) := by
    unfold hat hv ht
    rw [wu_5 _ _ (by omega), et _ (by omega)]
  have eb : bks (wu w u) (nI x) = bks w (nI x) := by
    unfold bks
    rw [(wu_cnt w u).2.2.2.2.2.1]
    refine fo_c _ (fun b s _ => ?_)
    rw [wu_n _ _ (by omega), et _ (by omega)]
  unfold Hu bs hi bod
  rw [es, ep, ec, eh, eb, ti_c (show wu w u (40 + 6 * x) = w (40 + 6 * x) from wu_k w u (x := x) (k := 0) (by omega)), ti_c (wu_k w u (x := x) (k := 1) (by omega)), ti_c (wu_k w u (x := x) (k := 2) (by omega))]
  have ef : st w x = true → flo (wu w u) (pw w x) (pc w x) = flo w (pw w x) (pc w x) := fun hs => by
    obtain ⟨-, q2, -, q4⟩ := wf_sit hW hx hs
    unfold flo
    rw [et _ (by omega), et _ (by omega), et _ (by omega)]
  cases hs : st w x
  · simp
    omega
  · rw [ef hs]
    simp
    omega
def LV (w : W_) (y : Nat) (u : UU) : Bool := lev (wu w u) y
def grp (w : W_) (x : Nat) : Nat := if ba w = true then 0 else pw w x
theorem grp_4 (hW : WF w) {x : Nat} (hx : x < nA w) (hs : st w x = true) : grp w x < 4 := by
  unfold grp
  have := (wf_sit hW hx hs).2.1
  have := wf_P4 hW
  split <;> omega
theorem bs_hv (hW : WF w) {y : Nat} (hy : y ≤ 30) {u : UU} (hu : UOK w u) {x : Nat} (hx : x < nA w) : -1000 < Hu w y u x ∧ Hu w y u x < 1000 := by
  rw [← hi_wu hW u hx]
  have := hi_b (WF_wu hW hu) (x := x) (by rw [(wu_cnt w u).2.2.2.1]; exact hx) hy
  omega
theorem sMb {x : Nat} : (sM w).testBit x = true ↔ x < nA w ∧ st w x = true := by
  unfold sM
  rw [mk_tb, Bool.and_eq_true, decide_eq_true_eq]
theorem pMb {x p : Nat} : (pM w p).testBit x = true ↔ x < nA w ∧ w (40 + 6 * x + 3) = nI p := by
  unfold pM
  rw [mk_tb, Bool.and_eq_true, decide_eq_true_eq, decide_eq_true_eq]
theorem fo_max {g : Nat → Int} {L : Int} (hL : 0 ≤ L) : ∀ n, fo (fun p s => max s (g p)) 0 n ≤ L ↔ ∀ p, p < n → g p ≤ L
  | 0 => ⟨fun _ p hp => absurd hp (Nat.not_lt_zero p), fun _ => hL⟩
  | n + 1 => by
    rw [fo_s]
    have ih := fo_max (g := g) hL n
    constructor
    · intro h p hp
      by_cases e : p = n
      · subst e
        omega
      · exact ih.mp (by omega) p (by omega)
    · intro h
      have h1 := ih.mpr (fun p hp => h p (by omega))
      have h2 := h n (Nat.lt_succ_self n)
      omega
theorem LV_iff (hW : WF w) {y : Nat} (hy : y ≤ 30) {u : UU} (hu : UOK w u) : LV w y u = true ↔ ∀ x z, x < nA w → z < nA w → st w x = true → st w z = true → grp w x = grp w z → Hu w y u x - Hu w y u z ≤ nV w := by
  have h8 := wf_A8 hW
  have h4 := wf_P4 hW
  have c := wu_cnt w u
  have e := lev_c (w := w) (w' := wu w u) (y := y) (hs' := Hu w y u) (fun z hz => hi_wu hW u hz) h8 (fun p hp => by
    unfold pM
    rw [c.2.2.2.1]
    exact mk_c _ (fun x _ => by rw [wu_k _ _ (by omega)])) (by
    unfold sM
    rw [c.2.2.2.1]
    exact mk_c _ (fun x _ => by
      unfold st
      rw [wu_k _ _ (by omega)])) (by
    unfold ba
    rw [wu_n _ _ (by omega)]) c.2.2.1
  unfold LV
  rw [e, decide_eq_true_eq]
  have hb : ∀ x, x < nA w → -10000 < Hu w y u x ∧ Hu w y u x < 10000 := fun x hx => by
    have := bs_hv hW hy hu hx
    omega
  have hV : (0 : Int) ≤ nV w := by omega
  unfold apa grp
  cases hba : ba w
  · simp only [if_neg (show ¬ false = true by decide)]
    rw [fo_max hV]
    have one : ∀ p, spr (Hu w y u) (sM w &&& pM w p) ≤ nV w ↔ ∀ x z, x < 8 → z < 8 → (sM w &&& pM w p).testBit x = true → (sM w &&& pM w p).testBit z = true → Hu w y u x - Hu w y u z ≤ nV w := fun p => spr_le (sub_256 (sub_and_l (sub_sM w)) h8) (fun x _ hx => hb x (sub_and_l (sub_sM w) x hx)) hV
    have bit : ∀ x p, (sM w &&& pM w p).testBit x = true ↔ x < nA w ∧ st w x = true ∧ w (40 + 6 * x + 3) = nI p := fun x p => by
      rw [Nat.testBit_and, Bool.and_eq_true, sMb, pMb]
      exact ⟨fun z => ⟨z.1.1, z.1.2, z.2.2⟩, fun z => ⟨⟨z.1, z.2.1⟩, z.1, z.2.2⟩⟩
    constructor
    · intro h x z hx hz sx sz eg
      obtain ⟨q1, q2, -⟩ := wf_sit hW hx sx
      obtain ⟨q3, q4, -⟩ := wf_sit hW hz sz
      exact (one (pw w x)).mp (h (pw w x) (by omega)) x z (by omega) (by omega) ((bit _ _).mpr ⟨hx, sx, q1⟩) ((bit _ _).mpr ⟨hz, sz, by rw [eg]; exact q3⟩)
    · intro h p hp
      refine (one p).mpr (fun x z _ _ bx bz => ?_)
      obtain ⟨hx, sx, ex⟩ := (bit _ _).mp bx
      obtain ⟨hz, sz, ez⟩ := (bit _ _).mp bz
      refine h x z hx hz sx sz ?_
      unfold pw
      rw [ex, ez]
  · simp only [if_true]
    rw [spr_le (sub_256 (sub_sM w) h8) (fun x _ hx => hb x (sub_sM w x hx)) hV]
    constructor
    · intro h x z hx hz sx sz _
      exact h x z (by omega) (by omega) (sMb.mpr ⟨hx, sx⟩) (sMb.mpr ⟨hz, sz⟩)
    · intro h x z _ _ bx bz
      obtain ⟨hx, sx⟩ := sMb.mp bx
      obtain ⟨hz, sz⟩ := sMb.mp bz
      exact h x z hx hz sx sz trivial
/-- one after another -/
def fl (g : Nat → List UU) : Nat → Nat → List UU
  | 0, _ => []
  | n + 1, h => g h ++ fl g n (h + 1)
theorem fl_s (g : Nat → List UU) (n h : Nat) : fl g (n + 1) h = g h ++ fl g n (h + 1) := rfl
theorem fl_len {g : Nat → List UU} {M : Nat} (hg : ∀ h, (g h).length ≤ M) : ∀ n h, (fl g n h).length ≤ n * M
  | 0, _ => by
    unfold fl
    exact Nat.zero_le _
  | n + 1, h => by
    rw [fl_s, List.length_append, Nat.succ_mul]
    have := hg h
    have := fl_len hg n (h + 1)
    omega
theorem fl_nil {g : Nat → List UU} : ∀ n h, (∀ i, h ≤ i → i < h + n → g i = []) → fl g n h = []
  | 0, _, _ => rfl
  | n + 1, h, e => by
    rw [fl_s, e h (Nat.le_refl h) (by omega), fl_nil n (h + 1) (fun i q1 q2 => e i (by omega) (by omega))]
    rfl
def sols (w : W_) (y : Nat) : Nat → Nat → UU → List UU
  | 0, _, u => if LV w y u = true then [u] else []
  | k + 1, f, u => if st w (nA w - (k + 1)) = true then fl (fun h => if f.testBit h = true then sols w y k (nand f (2 ^ h)) (upd u (nA w - (k + 1)) (nI h)) else []) (nH w) 0 else sols w y k f u
def sg1 (w : W_) (y k f : Nat) (u : UU) : Nat → List UU := fun h => if f.testBit h = true then sols w y k (nand f (2 ^ h)) (upd u (nA w - (k + 1)) (nI h)) else []
theorem sols_0 (y f : Nat) (u : UU) : sols w y 0 f u = if LV w y u = true then [u] else [] := rfl
theorem sols_t {y k f : Nat} {u : UU} (h : st w (nA w - (k + 1)) = true) : sols w y (k + 1) f u = fl (sg1 w y k f u) (nH w) 0 := by
  show (if _ then _ else _) = _
  rw [if_pos h]
  rfl
theorem sols_f {y k f : Nat} {u : UU} (h : st w (nA w - (k + 1)) = false) : sols w y (k + 1) f u = sols w y k f u := by
  show (if _ then _ else _) = _
  rw [h, if_neg (by decide)]
theorem sols_len (hW : WF w) (y : Nat) : ∀ k f u, (sols w y k f u).length ≤ 8 ^ k
  | 0, f, u => by
    rw [sols_0]
    split
    · exact Nat.le_refl 1
    · exact Nat.zero_le 1
  | k + 1, f, u => by
    have h9 := wf_H8 hW
    have p1 : 1 ≤ 8 ^ k := Nat.pow_pos (by decide)
    cases hs : st w (nA w - (k + 1))
    · rw [sols_f hs]
      have := sols_len hW y k f u
      rw [Nat.pow_succ]
      omega
    · rw [sols_t hs]
      have h1 := fl_len (g := sg1 w y k f u) (M := 8 ^ k) (fun h => by
        unfold sg1
        split
        · exact sols_len hW y k _ _
        · exact Nat.zero_le _) (nH w) 0
      have h2 : nH w * 8 ^ k ≤ 8 * 8 ^ k := Nat.mul_le_mul_right _ h9
      rw [Nat.pow_succ, Nat.mul_comm (8 ^ k) 8]
      omega
/-- two of a group too far apart: no way -/
theorem sols_no (hW : WF w) {y : Nat} (hy : y ≤ 30) : ∀ k f (u : UU), k ≤ nA w → UOK w u → (∃ x z, x < nA w - k ∧ z < nA w - k ∧ st w x = true ∧ st w z = true ∧ grp w x = grp w z ∧ nV w < Hu w y u x - Hu w y u z) → sols w y k f u = []
  | 0, f, u, _, hu, ⟨x, z, hx, hz, sx, sz, eg, hd⟩ => by
    rw [sols_0, if_neg (fun e => by
      have := (LV_iff hW hy hu).mp e x z (by omega) (by omega) sx sz eg
      omega)]
  | k + 1, f, u, hk, hu, ⟨x, z, hx, hz, sx, sz, eg, hd⟩ => by
    cases hs : st w (nA w - (k + 1))
    · rw [sols_f hs]
      exact sols_no hW hy k f u (by omega) hu ⟨x, z, by omega, by omega, sx, sz, eg, hd⟩
    · rw [sols_t hs]
      refine fl_nil _ _ (fun h _ h2 => ?_)
      unfold sg1
      split
      · refine sols_no hW hy k _ _ (by omega) (fun q hq => ?_) ⟨x, z, by omega, by omega, sx, sz, eg, ?_⟩
        · by_cases e : q = nA w - (k + 1)
          · subst e
            rw [upd_eq]
            exact Or.inr ⟨h, by omega, rfl⟩
          · rw [upd_ne _ _ e]
            exact hu q hq
        · unfold Hu
          rw [upd_ne _ _ (by omega), upd_ne _ _ (by omega)]
          exact hd
      · rfl
/-- more sitters than hats: no way -/
def ns (w : W_) : Nat → Nat
  | 0 => 0
  | k + 1 => ns w k + if st w (nA w - (k + 1)) = true then 1 else 0
theorem sols_few (hW : WF w) (y : Nat) : ∀ k f (u : UU), k ≤ nA w → f < 256 → bc f < ns w k → sols w y k f u = []
  | 0, f, u, _, _, h => absurd h (Nat.not_lt_zero _)
  | k + 1, f, u, hk, hf, h => by
    have h9 := wf_H8 hW
    have e : ns w (k + 1) = ns w k + if st w (nA w - (k + 1)) = true then 1 else 0 := rfl
    cases hs : st w (nA w - (k + 1))
    · rw [sols_f hs]
      rw [hs, if_neg (by decide)] at e
      exact sols_few hW y k f u (by omega) hf (by omega)
    · rw [sols_t hs]
      rw [hs, if_pos rfl] at e
      refine fl_nil _ _ (fun q _ h2 => ?_)
      unfold sg1
      split
      · rename_i hb
        have b := bc_nd ⟨f, hf⟩ ⟨q, by omega⟩ hb
        dsimp only at b
        exact sols_few hW y k _ _ (by omega) (nand_256 hf) (by omega)
      · rfl
end HW
