/-! ===== books: the world with other owners ===== -/
section BW
variable {F : Nat} {D : mx_D} {E : mx_E} {w : W_}
/-- level: no two of a group are too far apart -/
theorem lev_iff (hW : WF w) {y : Nat} (hy : y ≤ 30) : lev w y = true ↔ ∀ x z, x < nA w → z < nA w → st w x = true → st w z = true → grp w x = grp w z → hi w y x - hi w y z ≤ nV w := by
  have h8 := wf_A8 hW
  have hu : UOK w (fun x => w (40 + 6 * x + 5)) := fun x hx => by
    rcases wf_ht hW hx with q | ⟨q1, q2⟩
    · exact Or.inl q
    · exact Or.inr ⟨_, q2, q1⟩
  have h := LV_iff hW hy hu
  have e : ∀ x, x < nA w → Hu w y (fun x => w (40 + 6 * x + 5)) x = hi w y x := fun x hx => by
    rw [← hi_wu hW _ hx, wu_self]
  unfold LV at h
  rw [wu_self] at h
  rw [h]
  constructor
  · intro q x z hx hz sx sz eg
    have := q x z hx hz sx sz eg
    rw [e x hx, e z hz] at this
    exact this
  · intro q x z hx hz sx sz eg
    rw [e x hx, e z hz]
    exact q x z hx hz sx sz eg
def wo (w : W_) (o : UU) : W_ := fun i => if 97 ≤ i ∧ i < 106 ∧ (i - 97) % 2 = 0 then o ((i - 97) / 2) else w i
theorem wo_5 (w : W_) (o : UU) {b : Nat} (hb : b < 5) : wo w o (96 + 2 * b + 1) = o b := by
  unfold wo
  rw [if_pos (by omega)]
  congr 1
  omega
theorem wo_n (w : W_) (o : UU) {i : Nat} (h : i < 97) : wo w o i = w i := by
  unfold wo
  rw [if_neg (by omega)]
theorem wo_k (w : W_) (o : UU) {b : Nat} : wo w o (96 + 2 * b) = w (96 + 2 * b) := by
  unfold wo
  rw [if_neg (by omega)]
theorem wo_upd (w : W_) (o : UU) {b : Nat} (hb : b < 5) (v : Int32) : upd (wo w o) (96 + 2 * b + 1) v = wo w (upd o b v) := by
  funext i
  by_cases e : i = 96 + 2 * b + 1
  · subst e
    rw [upd_eq, wo_5 _ _ hb, upd_eq]
  · rw [upd_ne _ _ e]
    unfold wo
    by_cases c : 97 ≤ i ∧ i < 106 ∧ (i - 97) % 2 = 0
    · rw [if_pos c, if_pos c, upd_ne _ _ (by omega)]
    · rw [if_neg c, if_neg c]
theorem wo_self (w : W_) : wo w (fun b => w (96 + 2 * b + 1)) = w := by
  funext i
  unfold wo
  by_cases c : 97 ≤ i ∧ i < 106 ∧ (i - 97) % 2 = 0
  · rw [if_pos c]
    show w (96 + 2 * ((i - 97) / 2) + 1) = w i
    rw [show 96 + 2 * ((i - 97) / 2) + 1 = i by omega]
  · rw [if_neg c]
def OOK (w : W_) (o : UU) : Prop := ∀ b, b < nB w → o b = -1 ∨ ∃ a, a < nA w ∧ o b = nI a
theorem wo_cnt (w : W_) (o : UU) : nP (wo w o) = nP w ∧ nL (wo w o) = nL w ∧ nV (wo w o) = nV w ∧ nA (wo w o) = nA w ∧ nH (wo w o) = nH w ∧ nB (wo w o) = nB w ∧ nN (wo w o) = nN w := n_c (fun i hi => wo_n w o (by omega))
theorem WF_wo (hW : WF w) {o : UU} (ho : OOK w o) : WF (wo w o) := by
  have h8 := wf_A8 hW
  have h9 := wf_H8 hW
  have hB := wf_B5 hW
  refine WF_mk hW (fun i hi => wo_n _ _ (by omega)) (h1_c hW (fun i q1 q2 => wo_n _ _ (by omega))) (h2_c hW (fun i q1 q2 => wo_n _ _ (by omega))) (fun z hz => ⟨wo_n _ _ (by omega), wo_n _ _ (by omega), wo_n _ _ (by omega)⟩) (fun z hz => h4_c hW hz (wo_n _ _ (by omega)) (wo_n _ _ (by omega))) (fun z hz => h5_c hW hz (wo_n _ _ (by omega))) (fun z hz => wo_n _ _ (by omega)) (fun z hz => wo_k _ _) (fun z hz => ?_)
  rw [wo_5 _ _ (by omega)]
  exact ho z hz
/-- the books under one, by owners -/
def bo (w : W_) (o : UU) (x : Nat) : Int := fo (fun b s => s + (if o b = nI x then ti w (96 + 2 * b) else 0)) 0 (nB w)
def bb (w : W_) (y x : Nat) : Int := hi w y x - bks w (nI x)
def Hb (w : W_) (y : Nat) (o : UU) (x : Nat) : Int := bb w y x + bo w o x
theorem bks_wo (hW : WF w) (o : UU) (x : Nat) : bks (wo w o) (nI x) = bo w o x := by
  have hB := wf_B5 hW
  unfold bks bo
  rw [(wo_cnt w o).2.2.2.2.2.1]
  refine fo_c _ (fun b s hb => ?_)
  rw [wo_5 _ _ (by omega), ti_c (wo_k w o)]
theorem hi_wo (hW : WF w) (o : UU) {y x : Nat} (hx : x < nA w) : hi (wo w o) y x = Hb w y o x := by
  have h8 := wf_A8 hW
  have h9 := wf_H8 hW
  have h4 := wf_P4 hW
  have h5 := wf_L5 hW
  have en : ∀ i, i < 97 → wo w o i = w i := fun i h => wo_n w o h
  have et : ∀ i, i < 97 → ti (wo w o) i = ti w i := fun i h => ti_c (en i h)
  have es : st (wo w o) x = st w x := by unfold st; rw [en _ (by omega)]
  have ep : pw (wo w o) x = pw w x := by unfold pw; rw [en _ (by omega)]
  have ec : pc (wo w o) x = pc w x := by unfold pc; rw [en _ (by omega)]
  have eh : hat (wo w o) x = hat w x := by
    unfold hat ht
    rw [en _ (by omega)]
    by_cases c : w (40 + 6 * x + 5) = -1
    · rw [if_pos c, if_pos c]
    · rw [if_neg c, if_neg c]
      have h2 : (w (40 + 6 * x + 5)).toNatClampNeg < nH w := ((wf_ht hW hx).resolve_left c).2
      exact et _ (by omega)
  unfold Hb bb hi bod
  rw [es, ep, ec, eh, bks_wo hW, et _ (by omega), et _ (by omega), et _ (by omega)]
  have ef : st w x = true → flo (wo w o) (pw w x) (pc w x) = flo w (pw w x) (pc w x) := fun hs => by
    obtain ⟨-, q2, -, q4⟩ := wf_sit hW hx hs
    unfold flo
    rw [et _ (by omega), et _ (by omega), et _ (by omega)]
  cases hs : st w x
  · simp <;> omega
  · rw [ef hs]
    simp <;> omega
def LB (w : W_) (y : Nat) (o : UU) : Bool := lev (wo w o) y
theorem LB_iff (hW : WF w) {y : Nat} (hy : y ≤ 30) {o : UU} (ho : OOK w o) : LB w y o = true ↔ ∀ x z, x < nA w → z < nA w → st w x = true → st w z = true → grp w x = grp w z → Hb w y o x - Hb w y o z ≤ nV w := by
  have h8 := wf_A8 hW
  have h := lev_iff (WF_wo hW ho) hy
  obtain ⟨-, -, c3, c4, -⟩ := wo_cnt w o
  have es : ∀ x, x < nA w → st (wo w o) x = st w x := fun x hx => by unfold st; rw [wo_n _ _ (by omega)]
  have eg : ∀ x, x < nA w → grp (wo w o) x = grp w x := fun x hx => by
    unfold grp ba pw
    rw [wo_n _ _ (by omega), wo_n _ _ (by omega)]
  unfold LB
  rw [h, c3, c4]
  constructor
  · intro q x z hx hz sx sz e
    have := q x z hx hz (by rw [es x hx]; exact sx) (by rw [es z hz]; exact sz) (by rw [eg x hx, eg z hz]; exact e)
    rw [hi_wo hW o hx, hi_wo hW o hz] at this
    exact this
  · intro q x z hx hz sx sz e
    rw [hi_wo hW o hx, hi_wo hW o hz]
    exact q x z hx hz (by rw [← es x hx]; exact sx) (by rw [← es z hz]; exact sz) (by rw [← eg x hx, ← eg z hz]; exact e)
end BW
