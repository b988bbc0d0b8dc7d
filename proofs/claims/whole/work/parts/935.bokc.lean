/-! ===== books: the class's search ===== -/
section BC
variable {F : Nat} {D : mx_D} {E : mx_E} {w : W_}
theorem fo_more {α : Type} {s : Nat → α → α} {z : α} {n : Nat} : ∀ d, (∀ i a, n ≤ i → i < n + d → s i a = a) → fo s z (n + d) = fo s z n
  | 0, _ => rfl
  | d + 1, h => by
    rw [show n + (d + 1) = (n + d) + 1 from rfl, fo_s, h (n + d) _ (by omega) (by omega), fo_more d (fun i a h1 h2 => h i a h1 (by omega))]
def sHi (w : W_) (T : Nat) : Int := fo (fun b s => s + (if T.testBit b = true then ti w (96 + 2 * b) else 0)) 0 (nB w)
def wtN (b : Nat) : Nat := [6561, 729, 81, 9, 1].getD b 0
def sWt (w : W_) (T : Nat) : Nat := fo (fun b s => s + (if T.testBit b = true then wtN b else 0)) 0 (nB w)
/-- a set of books that nobody has -/
def FB (w : W_) (o : UU) (T : Nat) : Prop := ∀ b, T.testBit b = true → b < nB w ∧ o b = -1
theorem sWt_5 (hW : WF w) {T : Nat} (hT : ∀ b, T.testBit b = true → b < nB w) : sWt w T = (if T.testBit 0 = true then 6561 else 0) + (if T.testBit 1 = true then 729 else 0) + (if T.testBit 2 = true then 81 else 0) + (if T.testBit 3 = true then 9 else 0) + (if T.testBit 4 = true then 1 else 0) := by
  have hB := wf_B5 hW
  have h := fo_more (s := fun b s => s + (if T.testBit b = true then wtN b else 0)) (z := 0) (n := nB w) (5 - nB w) (fun i a h1 h2 => by
    have : ¬ T.testBit i = true := fun z => by
      have := hT i z
      omega
    rw [if_neg this, Nat.add_zero])
  rw [show nB w + (5 - nB w) = 5 by omega] at h
  unfold sWt
  rw [← h]
  show 0 + _ + _ + _ + _ + _ = _
  rw [Nat.zero_add]
  rfl
theorem dgt_usp {o : UU} {p T : Nat} (hp : p < 8) (hT : FB w o T) (b : Nat) : dgt w (usp o p T) b = dgt w o b + (if T.testBit b = true then p + 1 else 0) := by
  cases h : T.testBit b
  · rw [if_neg (by decide), Nat.add_zero]
    exact dgt_c (usp_f _ _ h)
  · obtain ⟨h1, h2⟩ := hT b h
    rw [if_pos rfl, dgt_m h2, Nat.zero_add]
    exact dgt_x h1 hp (usp_t _ _ h)
theorem rwN_usp (hW : WF w) {o : UU} {p T : Nat} (hp : p < 8) (hT : FB w o T) : rwN w (usp o p T) = rwN w o + (p + 1) * sWt w T := by
  rw [sWt_5 hW (fun b hb => (hT b hb).1)]
  unfold rwN
  rw [dgt_usp hp hT 0, dgt_usp hp hT 1, dgt_usp hp hT 2, dgt_usp hp hT 3, dgt_usp hp hT 4]
  cases T.testBit 0 <;> cases T.testBit 1 <;> cases T.testBit 2 <;> cases T.testBit 3 <;> cases T.testBit 4 <;> simp only [if_true, Bool.false_eq_true, if_false] <;> omega
theorem gvn_usp (hW : WF w) {o : UU} {p T : Nat} (hp : p < 8) (hT : FB w o T) : gvn w (usp o p T) = gvn w o + bc T := by
  have hB := wf_B5 hW
  have h := fo_more (s := fun b s => s + (if T.testBit b = true then 1 else 0)) (z := 0) (n := nB w) (8 - nB w) (fun i a h1 h2 => by
    have : ¬ T.testBit i = true := fun z => by
      have := (hT i z).1
      omega
    rw [if_neg this, Nat.add_zero])
  rw [show nB w + (8 - nB w) = 8 by omega] at h
  have e : bc T = fo (fun b s => s + (if T.testBit b = true then 1 else 0)) 0 (nB w) := h
  rw [e]
  unfold gvn
  have : ∀ n, fo (fun b s => s + (if usp o p T b = -1 then 0 else 1)) 0 n = fo (fun b s => s + (if o b = -1 then 0 else 1)) 0 n + fo (fun b s => s + (if T.testBit b = true then 1 else 0)) 0 n := by
    intro n
    induction n with
    | zero => rfl
    | succ n ih =>
      rw [fo_s, fo_s, fo_s, ih]
      cases h : T.testBit n
      · rw [usp_f _ _ h, if_neg (show ¬ false = true by decide)]
        omega
      · rw [usp_t _ _ h, (hT n h).2, if_neg (nI_m1 (by omega)), if_pos rfl, if_pos rfl]
        omega
  exact this _
theorem kyN_usp (hW : WF w) {o : UU} {p T : Nat} (hp : p < 8) (hT : FB w o T) : kyN w (usp o p T) = kyN w o + bc T * 59049 + (p + 1) * sWt w T := by
  unfold kyN
  rw [rwN_usp hW hp hT, gvn_usp hW hp hT, Nat.add_mul]
  omega
theorem bo_usp {o : UU} {p T x : Nat} (hp : p < 8) (hx : x < 8) (hT : FB w o T) (hxp : x ≠ p) : bo w (usp o p T) x = bo w o x := by
  unfold bo
  refine fo_c _ (fun b s hb => ?_)
  cases h : T.testBit b
  · rw [usp_f _ _ h]
  · rw [usp_t _ _ h, (hT b h).2, if_neg (fun e => hxp ((nI_eq (by omega) (by omega)).mp e).symm), if_neg (fun e => nI_m1 (n := x) (by omega) e.symm)]
theorem bo_usp2 {o : UU} {p T : Nat} (ho : ∀ b, b < nB w → ¬ o b = nI p) : bo w (usp o p T) p = sHi w T := by
  unfold bo sHi
  refine fo_c _ (fun b s hb => ?_)
  cases h : T.testBit b
  · rw [usp_f _ _ h, if_neg (ho b hb), if_neg (by decide)]
  · rw [usp_t _ _ h, if_pos rfl, if_pos rfl]
def OP (w : W_) (o : UU) (p : Nat) : Prop := ∀ b, b < nB w → o b = -1 ∨ ∃ x, x < p ∧ o b = nI x
theorem OP_up {o : UU} {p q : Nat} (h : OP w o p) (hq : p ≤ q) : OP w o q := fun b hb => (h b hb).imp id (fun ⟨x, x1, x2⟩ => ⟨x, by omega, x2⟩)
theorem OP_usp {o : UU} {p T : Nat} (h : OP w o p) : OP w (usp o p T) (p + 1) := fun b hb => by
  cases z : T.testBit b
  · rw [usp_f _ _ z]
    exact OP_up h (Nat.le_succ p) b hb
  · rw [usp_t _ _ z]
    exact Or.inr ⟨p, Nat.lt_succ_self p, rfl⟩
theorem OP_no {o : UU} {p : Nat} (hp : p < 8) (h : OP w o p) : ∀ b, b < nB w → ¬ o b = nI p := fun b hb e => by
  rcases h b hb with z | ⟨x, x1, x2⟩
  · rw [z] at e
    exact nI_m1 (n := p) (by omega) e.symm
  · rw [x2] at e
    have := (nI_eq (by omega) (by omega)).mp e
    omega
theorem OP_ok {o : UU} (h : OP w o (nA w)) : OOK w o := h
theorem OP_okp {o : UU} {p : Nat} (h : OP w o p) (hp : p ≤ nA w) : OOK w o := OP_up h hp
theorem Hb_usp (hA : nA w ≤ 8) {y : Nat} {o : UU} {p T x : Nat} (hp : p < 8) (hx : x < p) (hT : FB w o T) : Hb w y (usp o p T) x = Hb w y o x := by
  unfold Hb
  rw [bo_usp hp (by omega) hT (by omega)]
theorem Hb_b (hW : WF w) {y : Nat} (hy : y ≤ 30) {o : UU} (ho : OOK w o) {x : Nat} (hx : x < nA w) : -1000 < Hb w y o x ∧ Hb w y o x < 1000 := by
  rw [← hi_wo hW o hx]
  have := hi_b (WF_wo hW ho) (x := x) (by rw [(wo_cnt w o).2.2.2.1]; exact hx) hy
  omega
/-! how far each group reaches -/
def EXH (w : W_) (h : Nat → Int) (p : Nat) (lo tp : Nat → Int) : Prop := ∀ g, g < 4 → tp g - lo g ≤ nV w ∧ (∀ x, x < p → st w x = true → grp w x = g → lo g ≤ h x ∧ h x ≤ tp g) ∧ ((lo g = 10000 ∧ tp g = -10000) ∨ ∃ x z, x < p ∧ z < p ∧ st w x = true ∧ st w z = true ∧ grp w x = g ∧ grp w z = g ∧ h x = lo g ∧ h z = tp g)
theorem EXH_c {h h' : Nat → Int} {p : Nat} {lo tp : Nat → Int} (e : ∀ x, x < p → h' x = h x) (H : EXH w h p lo tp) : EXH w h' p lo tp := fun g hg => by
  obtain ⟨q1, q2, q3⟩ := H g hg
  refine ⟨q1, fun x hx sx ex => ?_, q3.imp id ?_⟩
  · rw [e x hx]
    exact q2 x hx sx ex
  · rintro ⟨x, z, a1, a2, a3, a4, a5, a6, a7, a8⟩
    exact ⟨x, z, a1, a2, a3, a4, a5, a6, by rw [e x a1]; exact a7, by rw [e z a2]; exact a8⟩
theorem EXH_f {h : Nat → Int} {p : Nat} {lo tp : Nat → Int} (hs : st w p = false) (H : EXH w h p lo tp) : EXH w h (p + 1) lo tp := fun g hg => by
  obtain ⟨q1, q2, q3⟩ := H g hg
  refine ⟨q1, fun x hx sx ex => ?_, q3.imp id ?_⟩
  · refine q2 x ?_ sx ex
    by_cases e : x = p
    · rw [e, hs] at sx
      exact absurd sx (by decide)
    · omega
  · rintro ⟨x, z, a1, a2, a3⟩
    exact ⟨x, z, by omega, by omega, a3⟩
theorem EXH_b {h : Nat → Int} {p : Nat} {lo tp : Nat → Int} (hb : ∀ x, x < p → -1000 < h x ∧ h x < 1000) (H : EXH w h p lo tp) {g : Nat} (hg : g < 4) : -10000 ≤ lo g ∧ lo g ≤ 10000 ∧ -10000 ≤ tp g ∧ tp g ≤ 10000 := by
  obtain ⟨-, -, h3⟩ := H g hg
  rcases h3 with ⟨e1, e2⟩ | ⟨x, z, x1, z1, -, -, -, -, e1, e2⟩
  · omega
  · have := hb x x1
    have := hb z z1
    omega
theorem EXH_cut {h : Nat → Int} {p g : Nat} {lo tp : Nat → Int} (H : EXH w h p lo tp) (hg : g < 4) (hs : st w p = true) (hgg : grp w p = g) (cut : (nV w : Int) < max (tp g) (h p) - min (lo g) (h p)) (hb : -1000 < h p ∧ h p < 1000) : ∃ a b, a < p + 1 ∧ b < p + 1 ∧ st w a = true ∧ st w b = true ∧ grp w a = grp w b ∧ (nV w : Int) < h a - h b := by
  obtain ⟨q1, q2, q3⟩ := H g hg
  rcases q3 with ⟨e1, e2⟩ | ⟨a, b, a1, b1, sa, sb, ga, gb, ea, eb⟩
  · omega
  · by_cases c1 : tp g < h p
    · exact ⟨p, a, by omega, by omega, hs, sa, by rw [hgg, ga], by rw [ea]; omega⟩
    · exact ⟨b, p, by omega, by omega, sb, hs, by rw [hgg, gb], by rw [eb]; omega⟩
theorem EXH_add {h : Nat → Int} {p g : Nat} {lo tp : Nat → Int} (H : EXH w h p lo tp) (hs : st w p = true) (hgg : grp w p = g) (cut : ¬ (nV w : Int) < max (tp g) (h p) - min (lo g) (h p)) (hb : -1000 < h p ∧ h p < 1000) : EXH w h (p + 1) (fun g' => if g' = g then min (lo g) (h p) else lo g') (fun g' => if g' = g then max (tp g) (h p) else tp g') := fun g' hg' => by
  obtain ⟨q1, q2, q3⟩ := H g' hg'
  by_cases e : g' = g
  · subst e
    dsimp only
    rw [if_pos rfl, if_pos rfl]
    refine ⟨by omega, fun x hx sx ex => ?_, Or.inr ?_⟩
    · by_cases e : x = p
      · rw [e]
        exact ⟨Int.min_le_right _ _, Int.le_max_right _ _⟩
      · have := q2 x (by omega) sx ex
        omega
    · rcases q3 with ⟨e1, e2⟩ | ⟨a, b, a1, b1, sa, sb, ga, gb, ea, eb⟩
      · exact ⟨p, p, by omega, by omega, hs, hs, hgg, hgg, by omega, by omega⟩
      · obtain ⟨a', a2, a3, a4, a5⟩ : ∃ a', a' < p + 1 ∧ st w a' = true ∧ grp w a' = g' ∧ h a' = min (lo g') (h p) := by
          by_cases c1 : lo g' ≤ h p
          · exact ⟨a, by omega, sa, ga, by omega⟩
          · exact ⟨p, by omega, hs, hgg, by omega⟩
        obtain ⟨b', b2, b3, b4, b5⟩ : ∃ b', b' < p + 1 ∧ st w b' = true ∧ grp w b' = g' ∧ h b' = max (tp g') (h p) := by
          by_cases c1 : h p ≤ tp g'
          · exact ⟨b, by omega, sb, gb, by omega⟩
          · exact ⟨p, by omega, hs, hgg, by omega⟩
        exact ⟨a', b', a2, b2, a3, b3, a4, b4, a5, b5⟩
  · dsimp only
    rw [if_neg e, if_neg e]
    refine ⟨q1, fun x hx sx ex => ?_, q3.imp id ?_⟩
    · have : x ≠ p := fun z => e (by rw [← ex, z, hgg])
      exact q2 x (by omega) sx ex
    · rintro ⟨a, b, a1, b1, a3⟩
      exact ⟨a, b, by omega, by omega, a3⟩
/-- two of a group too far apart: no way -/
theorem gsl_no (hW : WF w) {y : Nat} (hy : y ≤ 30) : ∀ k f m (o : UU), k ≤ nA w → OP w o (nA w - k) → FB w o f → (∃ x z, x < nA w - k ∧ z < nA w - k ∧ st w x = true ∧ st w z = true ∧ grp w x = grp w z ∧ (nV w : Int) < Hb w y o x - Hb w y o z) → gsl w y k f m o = []
  | 0, f, m, o, _, ho, _, ⟨x, z, hx, hz, sx, sz, eg, hd⟩ => by
    show (if LB w y o = true then [o] else []) = []
    rw [if_neg (fun e => by
      have := (LB_iff hW hy (OP_ok ho)).mp e x z (by omega) (by omega) sx sz eg
      omega)]
  | k + 1, f, m, o, hk, ho, hf, ⟨x, z, hx, hz, sx, sz, eg, hd⟩ => by
    have h8 := wf_A8 hW
    cases hs : st w (nA w - (k + 1))
    · rw [gsl_f hs]
      exact gsl_no hW hy k f m o (by omega) (OP_up ho (by omega)) hf ⟨x, z, by omega, by omega, sx, sz, eg, hd⟩
    · rw [gsl_t hs]
      refine fl_nil _ _ (fun T _ hT => ?_)
      unfold gT
      split
      · rename_i c
        have hT2 : FB w o T := fun b hb => hf b (and_sub c.1 b hb)
        have hop := OP_usp (T := T) ho
        rw [show nA w - (k + 1) + 1 = nA w - k by omega] at hop
        refine gsl_no hW hy k _ _ _ (by omega) hop (fun b hb => ?_) ⟨x, z, by omega, by omega, sx, sz, eg, ?_⟩
        · obtain ⟨b1, b2⟩ := nand_ty hb
          rw [usp_f _ _ b2]
          exact hf b b1
        · rw [Hb_usp h8 (by omega) hx hT2, Hb_usp h8 (by omega) hz hT2]
          exact hd
      · rfl
/-! what is counted and what is the least -/
def mn1 (w : W_) (b : Int) (o : UU) : Int := if b = -1 then (kyN w o : Int) else min b (kyN w o)
def mnk (w : W_) (A : List UU) : Int := A.foldl (mn1 w) (-1)
theorem mnk_snoc (A : List UU) (o : UU) : mnk w (A ++ [o]) = mn1 w (mnk w A) o := by
  unfold mnk
  rw [List.foldl_append]
  rfl
theorem mnk_fold : ∀ (L : List UU) (b : Int), 0 ≤ b → (L.foldl (mn1 w) b ≤ b ∧ 0 ≤ L.foldl (mn1 w) b) ∧ (L.foldl (mn1 w) b = b ∨ ∃ o, o ∈ L ∧ L.foldl (mn1 w) b = kyN w o) ∧ ∀ o, o ∈ L → L.foldl (mn1 w) b ≤ kyN w o
  | [], b, hb => ⟨⟨Int.le_refl b, hb⟩, Or.inl rfl, fun o ho => absurd ho List.not_mem_nil⟩
  | x :: L, b, hb => by
    have e : mn1 w b x = min b (kyN w x) := if_neg (by omega)
    show (L.foldl (mn1 w) (mn1 w b x) ≤ b ∧ 0 ≤ L.foldl (mn1 w) (mn1 w b x)) ∧ (L.foldl (mn1 w) (mn1 w b x) = b ∨ ∃ o, o ∈ x :: L ∧ L.foldl (mn1 w) (mn1 w b x) = kyN w o) ∧ ∀ o, o ∈ x :: L → L.foldl (mn1 w) (mn1 w b x) ≤ kyN w o
    rw [e]
    obtain ⟨⟨h1, h2⟩, h3, h4⟩ := mnk_fold L (min b (kyN w x)) (by omega)
    refine ⟨⟨by omega, h2⟩, ?_, fun o ho => ?_⟩
    · rcases h3 with h3 | ⟨o, o1, o2⟩
      · by_cases c : b ≤ (kyN w x : Int)
        · exact Or.inl (by omega)
        · exact Or.inr ⟨x, List.mem_cons_self, by omega⟩
      · exact Or.inr ⟨o, List.mem_cons_of_mem _ o1, o2⟩
    · rcases List.mem_cons.mp ho with e2 | ho
      · rw [e2]
        omega
      · exact h4 o ho
theorem mnk_sp (A : List UU) : (A = [] ∧ mnk w A = -1) ∨ (A ≠ [] ∧ 0 ≤ mnk w A ∧ (∃ o, o ∈ A ∧ mnk w A = kyN w o) ∧ ∀ o, o ∈ A → mnk w A ≤ kyN w o) := by
  cases A with
  | nil => exact Or.inl ⟨rfl, rfl⟩
  | cons x L =>
    right
    have e : mnk w (x :: L) = L.foldl (mn1 w) (kyN w x) := rfl
    rw [e]
    obtain ⟨⟨h1, h2⟩, h3, h4⟩ := mnk_fold (w := w) L (kyN w x) (by omega)
    refine ⟨by simp, h2, ?_, fun o ho => ?_⟩
    · rcases h3 with h3 | ⟨o, o1, o2⟩
      · exact ⟨x, List.mem_cons_self, h3⟩
      · exact ⟨o, List.mem_cons_of_mem _ o1, o2⟩
    · rcases List.mem_cons.mp ho with e2 | ho
      · rw [e2]
        exact h1
      · exact h4 o ho
def XT (w : W_) (y : Nat) (D : mx_D) : Prop := (∀ x, x < nA w → D 46 x = iI (bb w y x)) ∧ ∀ T, T < 32 → D 47 T = iI (sHi w T) ∧ D 48 T = nI (sWt w T)
def XB (w : W_) (D : mx_D) (A : List UU) : Prop := D 45 0 = nI A.length ∧ D 45 7 = iI (mnk w A) ∧ -1 ≤ mnk w A ∧ mnk w A < 400000
def GB (D : mx_D) (lo tp : Nat → Int) : Prop := ∀ g, g < 4 → D 49 g = iI (lo g) ∧ D 50 g = iI (tp g)
def OUTB (D D' : mx_D) : Prop := ∀ c, c ≠ 45 → c ≠ 49 → c ≠ 50 → D' c = D c
theorem OUTB_t {D D' D'' : mx_D} (h : OUTB D D') (h' : OUTB D' D'') : OUTB D D'' := fun c q1 q2 q3 => (h' c q1 q2 q3).trans (h c q1 q2 q3)
theorem OUTB_CC {D D' : mx_D} (h : OUTB D D') (hC : CC D w) : CC D' w := CC_of hC (fun c hc => h c (by omega) (by omega) (by omega))
theorem OUTB_XT {D D' : mx_D} {y : Nat} (h : OUTB D D') (hX : XT w y D) : XT w y D' := ⟨fun x hx => by rw [h 46 (by decide) (by decide) (by decide), hX.1 x hx], fun T hT => by
  rw [h 47 (by decide) (by decide) (by decide), h 48 (by decide) (by decide) (by decide)]
  exact hX.2 T hT⟩
theorem XB_of {D D' : mx_D} {A : List UU} (h : D' 45 = D 45) (hX : XB w D A) : XB w D' A := by
  unfold XB
  rw [h]
  exact hX
theorem B_give_s (hF : 1000 ≤ F) (hW : WF w) {y : Nat} (hy : y ≤ 30) : ∀ k m f mo (o : UU) (A : List UU) (D : mx_D) (lo tp : Nat → Int), k < m → k ≤ nA w → CC D w → XT w y D → XB w D A → GB D lo tp → EXH w (Hb w y o) (nA w - k) lo tp → OP w o (nA w - k) → f < 32 → FB w o f → mo ≤ 5 → A.length + (gsl w y k f mo o).length < 2 ^ 31 → ∃ D', g_BookSearch_give F m (nI (nA w - k)) (nI f) (nI (kyN w o)) (nI mo) D = some D' ∧ OUTB D D' ∧ XB w D' (A ++ gsl w y k f mo o) ∧ GB D' lo tp
  | 0, m, f, mo, o, A, D, lo, tp, hm, _, hC, hT, hX, hG, hE, ho, hf, hfo, hmo, hl => by
    have h8 := wf_A8 hW
    obtain ⟨m, rfl⟩ : ∃ g, m = g + 1 := ⟨m - 1, by omega⟩
    rw [Nat.sub_zero] at hE ho ⊢
    have hok := OP_ok ho
    have hk4 := kyN_lt hW (OW_of hW hok)
    have hLV : LB w y o = true := (LB_iff hW hy hok).mpr (fun x z hx hz sx sz eg => by
      obtain ⟨h1, h2, -⟩ := hE (grp w x) (grp_4 hW hx sx)
      have a := h2 x (by omega) sx rfl
      have b := h2 z (by omega) sz eg.symm
      omega)
    have es : gsl w y 0 f mo o = [o] := if_pos hLV
    obtain ⟨x1, x2, x3, x4⟩ := hX
    rw [es] at hl ⊢
    rw [s_BookSearch_give]
    unfold b_BookSearch_give
    rw [c_24 hC, wf_A hW, if_neg (fun z => by rw [Int32.lt_iff_toInt_lt] at z; omega)]
    have e1 : sD D 45 0 (D 45 0 + nI 1) 45 7 = iI (mnk w A) := by rw [sD_nj _ _ _ (by decide), x2]
    have e0 : sD D 45 0 (D 45 0 + nI 1) 45 0 = nI (A ++ [o]).length := by
      rw [sD_eq, x1, nI_add, List.length_append]
      rfl
    have en : ∀ c, c ≠ 45 → sD D 45 0 (D 45 0 + nI 1) c = D c := fun c hc => sD_nr _ _ _ hc
    generalize sD D 45 0 (D 45 0 + nI 1) = S at e1 e0 en ⊢
    rw [e1]
    have fin : ∀ v : Int, mn1 w (mnk w A) o = v → -1 ≤ v → v < 400000 → OUTB D (sD S 45 7 (iI v)) ∧ XB w (sD S 45 7 (iI v)) (A ++ [o]) ∧ GB (sD S 45 7 (iI v)) lo tp := fun v hv v1 v2 => by
      refine ⟨fun c q1 q2 q3 => by rw [sD_nr _ _ _ q1, en c q1], ⟨?_, ?_, ?_, ?_⟩, fun g hg => ⟨?_, ?_⟩⟩
      · rw [sD_nj _ _ _ (by decide), e0]
      · rw [sD_eq, mnk_snoc, hv]
      · rw [mnk_snoc, hv]
        exact v1
      · rw [mnk_snoc, hv]
        exact v2
      · rw [sD_nr _ _ _ (by decide), en 49 (by decide)]
        exact (hG g hg).1
      · rw [sD_nr _ _ _ (by decide), en 50 (by decide)]
        exact (hG g hg).2
    have cm : iI (mnk w A) = -1 ↔ mnk w A = -1 := by rw [iI_m1, iI_eq (by omega) (by omega) (by omega) (by omega)]
    by_cases c : mnk w A = -1
    · rw [if_pos (cm.mpr c), iI_nI]
      exact ⟨_, rfl, fin _ (if_pos c) (by omega) (by omega)⟩
    · rw [if_neg (fun z => c (cm.mp z)), iI_nI, imn_iI (by omega) (by omega) (by omega) (by omega)]
      exact ⟨_, rfl, fin _ (if_neg c) (by omega) (by omega)⟩
  | k + 1, m, f, mo, o, A, D, lo, tp, hm, hk, hC, hT, hX, hG, hE, ho, hf, hfo, hmo, hl => by
    have h8 := wf_A8 hW
    have hV := wf_V30 hW
    obtain ⟨m, rfl⟩ : ∃ g, m = g + 1 := ⟨m - 1, by omega⟩
    have ih := B_give_s hF hW hy k m
    have hpp : nA w - k = nA w - (k + 1) + 1 := by omega
    have hpA : nA w - (k + 1) < nA w := by omega
    rw [s_BookSearch_give]
    unfold b_BookSearch_give
    rw [c_24 hC, wf_A hW, if_pos ((by rw [Int32.lt_iff_toInt_lt, nI_toInt (by omega), nI_toInt (by omega)]; omega)), C_seat_s hC hW hpA, ob_some, b01_if]
    cases hs : st w (nA w - (k + 1))
    · rw [if_neg (show ¬ false = true by decide), nI_add]
      rw [gsl_f hs] at hl ⊢
      have hE' := EXH_f hs hE
      rw [← hpp] at hE'
      obtain ⟨D', d1, d2⟩ := ih f mo o A D lo tp (by omega) (by omega) hC hT hX hG hE' (OP_up ho (by omega)) hf hfo hmo hl
      rw [hpp] at d1
      rw [d1, ob_some]
      exact ⟨D', rfl, d2⟩
    · rw [if_pos rfl]
      rw [gsl_t hs] at hl ⊢
      have hg4 := grp_4 hW hpA hs
      have eg : (if D 19 3 = 0 then rk 8 (nI (nA w - (k + 1))) (b_BookSearch_give_98 F (g_BookSearch_give F m) (nI (nA w - (k + 1))) (nI f) (nI (kyN w o)) (nI mo) (D 28 (nI (nA w - (k + 1))).toNatClampNeg) D) else b_BookSearch_give_98 F (g_BookSearch_give F m) (nI (nA w - (k + 1))) (nI f) (nI (kyN w o)) (nI mo) (nI 0) D) = b_BookSearch_give_98 F (g_BookSearch_give F m) (nI (nA w - (k + 1))) (nI f) (nI (kyN w o)) (nI mo) (nI (grp w (nA w - (k + 1)))) D := by
        rw [c_3 hC, rk_in (show nA w - (k + 1) < 8 by omega) (by decide), nI_clamp (by omega), c_28 hC hpA, (wf_sit hW hpA hs).1]
        unfold grp ba
        rcases wf_3 hW with q | q
        · rw [q, if_pos (show nI 0 = 0 from rfl), decide_eq_false (show ¬ nI 0 = nI 1 by decide), if_neg (show ¬ false = true by decide)]
        · rw [q, if_neg (show ¬ nI 1 = 0 by decide), decide_eq_true rfl, if_pos rfl]
      rw [eg]
      generalize hp : nA w - (k + 1) = p at *
      generalize hgg : grp w p = g at *
      have hp8 : p < 8 := by omega
      have hbE : ∀ x, x < p → -1000 < Hb w y o x ∧ Hb w y o x < 1000 := fun x hx => Hb_b hW hy (OP_okp ho (by omega)) (by omega)
      have hb := EXH_b hbE hE hg4
      unfold b_BookSearch_give_98
      rw [rk_in hg4 (by decide), rk_in hg4 (by decide), nI_clamp (by omega), (hG g hg4).1, (hG g hg4).2]
      have try_ : ∀ n T, T + n = f + 1 → ∀ j, n < j → ∀ (A : List UU) (X : mx_D), OUTB D X → XB w X A → (∀ g', g' < 4 → g' ≠ g → X 49 g' = iI (lo g') ∧ X 50 g' = iI (tp g')) → A.length + (fl (gT (gsl w y k) f mo o p) n T).length < 2 ^ 31 → ∃ D', g_BookSearch_give_121 F (g_BookSearch_give F m) j (nI p) (nI f) (nI (kyN w o)) (nI mo) (nI g) (iI (lo g)) (iI (tp g)) (nI T) X = some D' ∧ OUTB D D' ∧ XB w D' (A ++ fl (gT (gsl w y k) f mo o p) n T) ∧ GB D' lo tp := by
        intro n
        induction n with
        | zero =>
          intro T hTn j hj A X hO hXA hR _
          obtain ⟨j, rfl⟩ : ∃ g, j = g + 1 := ⟨j - 1, by omega⟩
          have hlt : nI f < nI T := by
            rw [Int32.lt_iff_toInt_lt, nI_toInt (by omega), nI_toInt (by omega)]
            omega
          rw [s_BookSearch_give_121]
          unfold b_BookSearch_give_121 b_BookSearch_give_269
          rw [if_pos hlt, rk_in hg4 (by decide), rk_in hg4 (by decide), nI_clamp (by omega)]
          have : A ++ fl (gT (gsl w y k) f mo o p) 0 T = A := List.append_nil A
          rw [this]
          refine ⟨_, rfl, fun c r1 r2 r3 => ?_, XB_of ?_ hXA, fun g' hg' => ?_⟩
          · rw [sD_nr _ _ _ r3, sD_nr _ _ _ r2, hO c r1 r2 r3]
          · rw [sD_nr _ _ _ (by decide), sD_nr _ _ _ (by decide)]
          · by_cases e : g' = g
            · subst e
              rw [sD_ne _ _ _ _ (by decide), sD_eq, sD_eq]
              exact ⟨rfl, rfl⟩
            · rw [sD_ne _ _ _ _ (by decide), sD_nj _ _ _ e, sD_nj _ _ _ e, sD_ne _ _ _ _ (by decide)]
              exact hR g' hg' e
        | succ n ihn =>
          intro T hTn j hj A X hO hXA hR hl'
          obtain ⟨j, rfl⟩ : ∃ g, j = g + 1 := ⟨j - 1, by omega⟩
          have hT32 : T < 32 := by omega
          rw [fl_s] at hl' ⊢
          rw [List.length_append] at hl'
          -- the next set
          have rest : ∀ (A : List UU) (X : mx_D), OUTB D X → XB w X A → (∀ g', g' < 4 → g' ≠ g → X 49 g' = iI (lo g') ∧ X 50 g' = iI (tp g')) → A.length + (fl (gT (gsl w y k) f mo o p) n (T + 1)).length < 2 ^ 31 → ∃ D', g_BookSearch_give_121 F (g_BookSearch_give F m) j (nI p) (nI f) (nI (kyN w o)) (nI mo) (nI g) (iI (lo g)) (iI (tp g)) (nI T + nI 1) X = some D' ∧ OUTB D D' ∧ XB w D' (A ++ fl (gT (gsl w y k) f mo o p) n (T + 1)) ∧ GB D' lo tp := fun A X hO hXA hR hl2 => by
            rw [nI_add]
            exact ihn (T + 1) (by omega) j (by omega) A X hO hXA hR hl2
          have hnl : ¬ nI f < nI T := by
            rw [Int32.lt_iff_toInt_lt, nI_toInt (by omega), nI_toInt (by omega)]
            omega
          rw [s_BookSearch_give_121]
          unfold b_BookSearch_give_121
          have hnd : nand T f < 2 ^ 31 := by
            have := nand_32 (b := f) hT32
            omega
          have hsub : nI (nand T f) = 0 ↔ T &&& f = T := by
            rw [nI_z _ hnd, nand_0]
            exact ⟨sub_and, and_sub⟩
          rw [if_neg hnl, nb_not T f]
          by_cases hTf : T &&& f = T
          case neg =>
            rw [if_neg (fun z => hTf (hsub.mp z))]
            have eG : gT (gsl w y k) f mo o p T = [] := if_neg (fun z => hTf z.1)
            rw [eG, List.nil_append]
            exact rest A X hO hXA hR (by omega)
          rw [if_pos (hsub.mpr hTf), bitC T (by omega)]
          have hfT : FB w o T := fun b hb => hfo b (and_sub hTf b hb)
          have hbcT := bc_8 T (by omega)
          have cmpm : nI (bc T) ≤ nI mo ↔ bc T ≤ mo := by
            rw [iI_nI (bc T), iI_nI mo, iI_le (by omega) (by omega) (by omega) (by omega)]
            omega
          by_cases cm : bc T ≤ mo
          · rw [if_pos (cmpm.mpr cm)]
            have eG : gT (gsl w y k) f mo o p T = gsl w y k (nand f T) (mo - bc T) (usp o p T) := if_pos ⟨hTf, cm⟩
            rw [eG] at hl' ⊢
            have hop := OP_usp (T := T) ho
            have hb2 := Hb_b hW hy (OP_okp hop (by omega)) hpA
            have oth : ∀ x, x < p → Hb w y (usp o p T) x = Hb w y o x := fun x hx => Hb_usp h8 hp8 hx hfT
            have hTX := OUTB_XT hO hT
            have e54 : X 46 p + X 47 T = iI (Hb w y (usp o p T) p) := by
              rw [hTX.1 p hpA, (hTX.2 T hT32).1, iI_add]
              unfold Hb
              rw [bo_usp2 (OP_no hp8 ho)]
            have hE1 : EXH w (Hb w y (usp o p T)) p lo tp := EXH_c oth hE
            simp (disch := omega) only [rk_in, nI_clamp, e54]
            generalize hHH : Hb w y (usp o p T) p = H at *
            rw [imn_iI (by omega) (by omega) (by omega) (by omega), imx_iI (by omega) (by omega) (by omega) (by omega)]
            have y1 : ∀ c, c ≠ 49 → c ≠ 50 → sD (sD X 49 g (iI (min (lo g) H))) 50 g (iI (max (tp g) H)) c = X c := fun c r1 r2 => by rw [sD_nr _ _ _ r2, sD_nr _ _ _ r1]
            have y49 : sD (sD X 49 g (iI (min (lo g) H))) 50 g (iI (max (tp g) H)) 49 g = iI (min (lo g) H) := by rw [sD_ne _ _ _ _ (by decide), sD_eq]
            have y50 : sD (sD X 49 g (iI (min (lo g) H))) 50 g (iI (max (tp g) H)) 50 g = iI (max (tp g) H) := sD_eq _ _ _ _
            have yo : ∀ g', g' < 4 → g' ≠ g → sD (sD X 49 g (iI (min (lo g) H))) 50 g (iI (max (tp g) H)) 49 g' = iI (lo g') ∧ sD (sD X 49 g (iI (min (lo g) H))) 50 g (iI (max (tp g) H)) 50 g' = iI (tp g') := fun g' hg' e => by
              rw [sD_ne _ _ _ _ (by decide), sD_nj _ _ _ e, sD_nj _ _ _ e, sD_ne _ _ _ _ (by decide)]
              exact hR g' hg' e
            generalize sD (sD X 49 g (iI (min (lo g) H))) 50 g (iI (max (tp g) H)) = Y at y1 y49 y50 yo ⊢
            have hOXY : OUTB X Y := fun c r1 r2 r3 => y1 c r2 r3
            have hOY := OUTB_t hO hOXY
            have hCY := OUTB_CC hOY hC
            have hTY := OUTB_XT hOY hT
            have hXY : XB w Y A := XB_of (y1 45 (by decide) (by decide)) hXA
            rw [c_2 hCY, wf_V hW, y49, y50, iI_sub, iI_nI (nV w)]
            have cmp : iI (nV w) < iI (max (tp g) H - min (lo g) H) ↔ (nV w : Int) < max (tp g) H - min (lo g) H := iI_lt (by omega) (by omega) (by omega) (by omega)
            by_cases cut : (nV w : Int) < max (tp g) H - min (lo g) H
            · rw [if_pos (cmp.mpr cut)]
              have eno : gsl w y k (nand f T) (mo - bc T) (usp o p T) = [] := by
                refine gsl_no hW hy k _ _ _ (by omega) (by rw [hpp]; exact hop) (fun b hb => ?_) ?_
                · obtain ⟨b1, b2⟩ := nand_ty hb
                  rw [usp_f _ _ b2]
                  exact hfo b b1
                · rw [hpp]
                  exact EXH_cut hE1 hg4 hs hgg (by rw [hHH]; exact cut) (by rw [hHH]; exact hb2)
              rw [eno, List.nil_append]
              exact rest A Y hOY hXY yo (by omega)
            · rw [if_neg (fun z => cut (cmp.mp z)), nb_not, (hTY.2 T hT32).2, nI_add, pk_mul, nI_add, pk_mul, nI_add, nI_subN cm, ← kyN_usp hW hp8 hfT]
              have hE2 := EXH_add hE1 hs hgg (by rw [hHH]; exact cut) (by rw [hHH]; exact hb2)
              rw [hHH, ← hpp] at hE2
              obtain ⟨Z, z1, z2, z3, z4⟩ := ih (nand f T) (mo - bc T) (usp o p T) A Y (fun g' => if g' = g then min (lo g) H else lo g') (fun g' => if g' = g then max (tp g) H else tp g') (by omega) (by omega) hCY hTY hXY (fun g' hg' => by
                by_cases e : g' = g
                · subst e
                  dsimp only
                  rw [if_pos rfl, if_pos rfl]
                  exact ⟨y49, y50⟩
                · dsimp only
                  rw [if_neg e, if_neg e]
                  exact yo g' hg' e) hE2 (by rw [hpp]; exact hop) (nand_32 hf) (fun b hb => by
                obtain ⟨b1, b2⟩ := nand_ty hb
                rw [usp_f _ _ b2]
                exact hfo b b1) (by omega) (by omega)
              rw [hpp] at z1
              rw [z1, ob_some]
              have := rest (A ++ gsl w y k (nand f T) (mo - bc T) (usp o p T)) Z (OUTB_t hOY z2) z3 (fun g' hg' e => by
                have := z4 g' hg'
                dsimp only at this
                rw [if_neg e, if_neg e] at this
                exact this) (by rw [List.length_append]; omega)
              rw [List.append_assoc] at this
              exact this
          · rw [if_neg (fun z => cm (cmpm.mp z))]
            have eG : gT (gsl w y k) f mo o p T = [] := if_neg (fun z => cm z.2)
            rw [eG, List.nil_append]
            exact rest A X hO hXA hR (by omega)
      exact try_ (f + 1) 0 (Nat.zero_add _) F (by omega) A D (fun _ _ _ _ => rfl) hX (fun g' hg' _ => hG g' hg') hl
end BC
