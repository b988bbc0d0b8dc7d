/-! ===== books: all rows of owners, in the reference's order and in the class's ===== -/
section BA
variable {F : Nat} {D : mx_D} {E : mx_E} {w : W_}
theorem fl_mem2 {g : Nat → List UU} {q : UU} : ∀ n h, q ∈ fl g n h ↔ ∃ x, h ≤ x ∧ x < h + n ∧ q ∈ g x
  | 0, h => ⟨fun z => absurd z List.not_mem_nil, fun ⟨x, h1, h2, _⟩ => absurd h2 (by omega)⟩
  | n + 1, h => by
    rw [fl_s, List.mem_append, fl_mem2 n (h + 1)]
    constructor
    · rintro (z | ⟨x, h1, h2, h3⟩)
      · exact ⟨h, Nat.le_refl h, by omega, z⟩
      · exact ⟨x, by omega, by omega, h3⟩
    · rintro ⟨x, h1, h2, h3⟩
      by_cases e : x = h
      · subst e
        exact Or.inl h3
      · exact Or.inr ⟨x, by omega, by omega, h3⟩
theorem fl_pw {R : UU → UU → Prop} {g : Nat → List UU} : ∀ n h, (∀ x, h ≤ x → x < h + n → (g x).Pairwise R) → (∀ x z, h ≤ x → x < z → z < h + n → ∀ a, a ∈ g x → ∀ b, b ∈ g z → R a b) → (fl g n h).Pairwise R
  | 0, _, _, _ => List.Pairwise.nil
  | n + 1, h, h1, h2 => by
    rw [fl_s, List.pairwise_append]
    refine ⟨h1 h (Nat.le_refl h) (by omega), fl_pw n (h + 1) (fun x q1 q2 => h1 x (by omega) (by omega)) (fun x z q1 q2 q3 => h2 x z (by omega) q2 (by omega)), fun a ha b hb => ?_⟩
    obtain ⟨x, q1, q2, q3⟩ := (fl_mem2 n (h + 1)).mp hb
    exact h2 h x (Nat.le_refl h) (by omega) (by omega) a ha b q3
def g1 (G : UU → List UU) (w : W_) (o : UU) (i : Nat) : Nat → List UU := fun x => if st w x = true then G (upd o i (nI x)) else []
/-- the reference's order: nobody ahead of those who sit, the last book first -/
def gvl (w : W_) : Nat → UU → List UU
  | 0, o => [o]
  | k + 1, o => gvl w k o ++ fl (g1 (gvl w k) w o (nB w - (k + 1))) (nA w) 0
theorem gvl_s (k : Nat) (o : UU) : gvl w (k + 1) o = gvl w k o ++ fl (g1 (gvl w k) w o (nB w - (k + 1))) (nA w) 0 := rfl
theorem gvl_len (hW : WF w) : ∀ k o, (gvl w k o).length ≤ 9 ^ k
  | 0, o => Nat.le_refl 1
  | k + 1, o => by
    have h8 := wf_A8 hW
    have h1 := gvl_len hW k o
    have h2 := fl_len (g := g1 (gvl w k) w o (nB w - (k + 1))) (M := 9 ^ k) (fun h => by
      unfold g1
      split
      · exact gvl_len hW k _
      · exact Nat.zero_le _) (nA w) 0
    have h3 : nA w * 9 ^ k ≤ 8 * 9 ^ k := Nat.mul_le_mul_right _ h8
    rw [gvl_s, List.length_append, Nat.pow_succ]
    omega
theorem gvl_mem (hW : WF w) : ∀ k (o q : UU), k ≤ nB w → (∀ b, nB w - k ≤ b → b < nB w → o b = -1) → (q ∈ gvl w k o ↔ (∀ b, ¬ (nB w - k ≤ b ∧ b < nB w) → q b = o b) ∧ ∀ b, nB w - k ≤ b → b < nB w → q b = -1 ∨ ∃ x, x < nA w ∧ st w x = true ∧ q b = nI x)
  | 0, o, q, _, ho => by
    show q ∈ [o] ↔ _
    rw [List.mem_singleton]
    constructor
    · intro e
      subst e
      exact ⟨fun _ _ => rfl, fun b h1 h2 => absurd h2 (by omega)⟩
    · intro ⟨h1, _⟩
      funext b
      exact h1 b (by omega)
  | k + 1, o, q, hk, ho => by
    obtain ⟨i, hi⟩ : ∃ i, i = nB w - (k + 1) := ⟨_, rfl⟩
    have hoi : o i = -1 := ho i (by omega) (by omega)
    have ih := fun (o' : UU) (h : ∀ b, nB w - k ≤ b → b < nB w → o' b = -1) => gvl_mem hW k o' q (by omega) h
    rw [gvl_s, List.mem_append, fl_mem2, ← hi, ih o (fun b h1 h2 => ho b (by omega) h2)]
    constructor
    · rintro (⟨h1, h2⟩ | ⟨x, -, x2, x3⟩)
      · refine ⟨fun b hb => h1 b (by omega), fun b q1 q2 => ?_⟩
        by_cases e : b = i
        · subst e
          exact Or.inl ((h1 b (by omega)).trans hoi)
        · exact h2 b (by omega) q2
      · unfold g1 at x3
        by_cases c : st w x = true
        · rw [if_pos c, ih _ (fun b h1 h2 => by rw [upd_ne _ _ (by omega)]; exact ho b (by omega) h2)] at x3
          obtain ⟨h1, h2⟩ := x3
          refine ⟨fun b hb => ?_, fun b q1 q2 => ?_⟩
          · rw [h1 b (by omega), upd_ne _ _ (by omega)]
          · by_cases e : b = i
            · subst e
              exact Or.inr ⟨x, by omega, c, (h1 b (by omega)).trans (upd_eq _ _ _)⟩
            · exact h2 b (by omega) q2
        · rw [if_neg c] at x3
          exact absurd x3 List.not_mem_nil
    · intro ⟨h1, h2⟩
      rcases h2 i (by omega) (by omega) with e | ⟨x, x1, x2, x3⟩
      · refine Or.inl ⟨fun b hb => ?_, fun b q1 q2 => h2 b (by omega) q2⟩
        by_cases e2 : b = i
        · rw [e2, e, hoi]
        · exact h1 b (by omega)
      · refine Or.inr ⟨x, Nat.zero_le x, by omega, ?_⟩
        unfold g1
        rw [if_pos x2, ih _ (fun b h1 h2 => by rw [upd_ne _ _ (by omega)]; exact ho b (by omega) h2)]
        refine ⟨fun b hb => ?_, fun b q1 q2 => h2 b (by omega) q2⟩
        by_cases e2 : b = i
        · rw [e2, upd_eq, x3]
        · rw [upd_ne _ _ e2]
          exact h1 b (by omega)
/-! the number of a row of owners -/
def dgt (w : W_) (o : UU) (b : Nat) : Nat := if b < nB w then (if o b = -1 then 0 else (o b).toNatClampNeg + 1) else 0
def rwN (w : W_) (o : UU) : Nat := dgt w o 0 * 6561 + dgt w o 1 * 729 + dgt w o 2 * 81 + dgt w o 3 * 9 + dgt w o 4
def gvn (w : W_) (o : UU) : Nat := fo (fun b s => s + (if o b = -1 then 0 else 1)) 0 (nB w)
def kyN (w : W_) (o : UU) : Nat := gvn w o * 59049 + rwN w o
def OW (w : W_) (o : UU) : Prop := ∀ b, b < nB w → o b = -1 ∨ ∃ x, x < 8 ∧ o b = nI x
theorem OW_of (hW : WF w) {o : UU} (h : OOK w o) : OW w o := fun b hb => (h b hb).imp id (fun ⟨x, x1, x2⟩ => ⟨x, by have := wf_A8 hW; omega, x2⟩)
theorem dgt_8 {o : UU} (h : OW w o) (b : Nat) : dgt w o b ≤ 8 := by
  unfold dgt
  by_cases c : b < nB w
  · rw [if_pos c]
    by_cases e : o b = -1
    · rw [if_pos e]
      exact Nat.zero_le _
    · rw [if_neg e]
      obtain ⟨x, x1, x2⟩ := (h b c).resolve_left e
      rw [x2, nI_clamp (by omega)]
      omega
  · rw [if_neg c]
    exact Nat.zero_le _
theorem dgt_m {o : UU} {b : Nat} (h : o b = -1) : dgt w o b = 0 := by
  unfold dgt
  rw [if_pos h, ite_self]
theorem dgt_x {o : UU} {b x : Nat} (hb : b < nB w) (hx : x < 8) (h : o b = nI x) : dgt w o b = x + 1 := by
  unfold dgt
  rw [if_pos hb, h, if_neg (nI_m1 (by omega)), nI_clamp (by omega)]
theorem dgt_c {o q : UU} {b : Nat} (h : o b = q b) : dgt w o b = dgt w q b := by
  unfold dgt
  rw [h]
theorem gvn_le (o : UU) : ∀ n, fo (fun b s => s + (if o b = -1 then 0 else 1)) 0 n ≤ n
  | 0 => Nat.le_refl 0
  | n + 1 => by
    have := gvn_le o n
    rw [fo_s]
    split <;> omega
theorem rwN_lt {o : UU} (h : OW w o) : rwN w o < 59049 := by
  have h0 := dgt_8 h 0
  have h1 := dgt_8 h 1
  have h2 := dgt_8 h 2
  have h3 := dgt_8 h 3
  have h4 := dgt_8 h 4
  unfold rwN
  omega
theorem kyN_lt (hW : WF w) {o : UU} (h : OW w o) : kyN w o < 400000 := by
  have h1 := gvn_le o (nB w)
  have h2 := rwN_lt h
  have h3 := wf_B5 hW
  unfold kyN gvn
  omega
theorem rwN_lex {o q : UU} (ho : OW w o) (hq : OW w q) {i : Nat} (hi : i < 5) (hl : ∀ b, b < i → dgt w o b = dgt w q b) (hd : dgt w o i < dgt w q i) : rwN w o < rwN w q := by
  have a0 := dgt_8 ho 0
  have a1 := dgt_8 ho 1
  have a2 := dgt_8 ho 2
  have a3 := dgt_8 ho 3
  have a4 := dgt_8 ho 4
  unfold rwN
  rcases (show i = 0 ∨ i = 1 ∨ i = 2 ∨ i = 3 ∨ i = 4 by omega) with rfl | rfl | rfl | rfl | rfl
  · omega
  · have := hl 0 (by omega)
    omega
  · have := hl 0 (by omega)
    have := hl 1 (by omega)
    omega
  · have := hl 0 (by omega)
    have := hl 1 (by omega)
    have := hl 2 (by omega)
    omega
  · have := hl 0 (by omega)
    have := hl 1 (by omega)
    have := hl 2 (by omega)
    have := hl 3 (by omega)
    omega
theorem gvl_ow (hW : WF w) {k : Nat} {o q : UU} (hk : k ≤ nB w) (hm : ∀ b, nB w - k ≤ b → b < nB w → o b = -1) (ho : OOK w o) (h : q ∈ gvl w k o) : OOK w q := fun b hb => by
  obtain ⟨h1, h2⟩ := (gvl_mem hW k o q hk hm).mp h
  by_cases c : nB w - k ≤ b
  · exact (h2 b c hb).imp id (fun ⟨x, x1, _, x3⟩ => ⟨x, x1, x3⟩)
  · rw [h1 b (by omega)]
    exact ho b hb
theorem OOK_upd {o : UU} (ho : OOK w o) {i x : Nat} (hx : x < nA w) : OOK w (upd o i (nI x)) := fun b hb => by
  by_cases e : b = i
  · subst e
    rw [upd_eq]
    exact Or.inr ⟨x, hx, rfl⟩
  · rw [upd_ne _ _ e]
    exact ho b hb
theorem gvl_pw (hW : WF w) : ∀ k (o : UU), k ≤ nB w → (∀ b, nB w - k ≤ b → b < nB w → o b = -1) → OOK w o → (gvl w k o).Pairwise (fun a b => rwN w a < rwN w b)
  | 0, o, _, _, _ => List.pairwise_singleton _ _
  | k + 1, o, hk, hm, ho => by
    have h8 := wf_A8 hW
    have hB := wf_B5 hW
    obtain ⟨i, hi⟩ : ∃ i, i = nB w - (k + 1) := ⟨_, rfl⟩
    have hoi : o i = -1 := hm i (by omega) (by omega)
    have m0 : ∀ b, nB w - k ≤ b → b < nB w → o b = -1 := fun b h1 h2 => hm b (by omega) h2
    have m1 : ∀ x b, nB w - k ≤ b → b < nB w → upd o i (nI x) b = -1 := fun x b h1 h2 => by rw [upd_ne _ _ (by omega)]; exact m0 b h1 h2
    -- what a member says of i and of what is ahead of it
    have top : ∀ (o' q : UU), (∀ b, nB w - k ≤ b → b < nB w → o' b = -1) → q ∈ gvl w k o' → ∀ b, b ≤ i → q b = o' b := fun o' q h1 h2 b hb => ((gvl_mem hW k o' q (by omega) h1).mp h2).1 b (by omega)
    rw [gvl_s, ← hi, List.pairwise_append]
    refine ⟨gvl_pw hW k o (by omega) m0 ho, fl_pw _ _ (fun x _ hx => ?_) (fun x z _ hxz hz a ha b hb => ?_), fun a ha b hb => ?_⟩
    · unfold g1
      split
      · exact gvl_pw hW k _ (by omega) (m1 x) (OOK_upd ho (by omega))
      · exact List.Pairwise.nil
    · unfold g1 at ha hb
      by_cases c1 : st w x = true
      · by_cases c2 : st w z = true
        · rw [if_pos c1] at ha
          rw [if_pos c2] at hb
          refine rwN_lex (OW_of hW (gvl_ow hW (by omega) (m1 x) (OOK_upd ho (by omega)) ha)) (OW_of hW (gvl_ow hW (by omega) (m1 z) (OOK_upd ho (by omega)) hb)) (i := i) (by omega) (fun j hj => ?_) ?_
          · refine dgt_c ?_
            rw [top _ a (m1 x) ha j (by omega), top _ b (m1 z) hb j (by omega), upd_ne _ _ (by omega), upd_ne _ _ (by omega)]
          · rw [dgt_x (x := x) (by omega) (by omega) (by rw [top _ a (m1 x) ha i (by omega), upd_eq]), dgt_x (x := z) (by omega) (by omega) (by rw [top _ b (m1 z) hb i (by omega), upd_eq])]
            omega
        · rw [if_neg c2] at hb
          exact absurd hb List.not_mem_nil
      · rw [if_neg c1] at ha
        exact absurd ha List.not_mem_nil
    · obtain ⟨z, -, z2, z3⟩ := (fl_mem2 _ _).mp hb
      unfold g1 at z3
      by_cases c2 : st w z = true
      · rw [if_pos c2] at z3
        refine rwN_lex (OW_of hW (gvl_ow hW (by omega) m0 ho ha)) (OW_of hW (gvl_ow hW (by omega) (m1 z) (OOK_upd ho (by omega)) z3)) (i := i) (by omega) (fun j hj => ?_) ?_
        · refine dgt_c ?_
          rw [top _ a m0 ha j (by omega), top _ b (m1 z) z3 j (by omega), upd_ne _ _ (by omega)]
        · rw [dgt_m (by rw [top _ a m0 ha i (by omega), hoi]), dgt_x (x := z) (by omega) (by omega) (by rw [top _ b (m1 z) z3 i (by omega), upd_eq])]
          omega
      · rw [if_neg c2] at z3
        exact absurd z3 List.not_mem_nil
/-! the first of those with the fewest given -/
def bs1 (w : W_) (a : Option UU) (o : UU) : Option UU := match a with
  | none => some o
  | some q => if gvn w o < gvn w q then some o else some q
def bst (w : W_) (A : List UU) : Option UU := A.foldl (bs1 w) none
theorem bst_snoc (A : List UU) (o : UU) : bst w (A ++ [o]) = bs1 w (bst w A) o := by
  unfold bst
  rw [List.foldl_append]
  rfl
theorem bs_fold : ∀ (L : List UU) (p : UU), OW w p → (∀ o, o ∈ L → OW w o) → L.Pairwise (fun a b => rwN w a < rwN w b) → (∀ o, o ∈ L → rwN w p < rwN w o) → ∃ a, L.foldl (bs1 w) (some p) = some a ∧ (a = p ∨ a ∈ L) ∧ kyN w a ≤ kyN w p ∧ gvn w a ≤ gvn w p ∧ ∀ o, o ∈ L → kyN w a ≤ kyN w o ∧ gvn w a ≤ gvn w o
  | [], p, _, _, _, _ => ⟨p, rfl, Or.inl rfl, Nat.le_refl _, Nat.le_refl _, fun o ho => absurd ho List.not_mem_nil⟩
  | x :: L, p, hW, hL, hP, hp => by
    rw [List.pairwise_cons] at hP
    obtain ⟨p1, p2⟩ := hP
    have hpx := hp x List.mem_cons_self
    have r1 := rwN_lt (hL x List.mem_cons_self)
    have r2 := rwN_lt hW
    have kx : kyN w x = gvn w x * 59049 + rwN w x := rfl
    have kp : kyN w p = gvn w p * 59049 + rwN w p := rfl
    have hL' : ∀ o, o ∈ L → OW w o := fun o ho => hL o (List.mem_cons_of_mem _ ho)
    show ∃ a, L.foldl (bs1 w) (if gvn w x < gvn w p then some x else some p) = some a ∧ _
    by_cases c : gvn w x < gvn w p
    · rw [if_pos c]
      obtain ⟨a, a1, a2, a3, a4, a5⟩ := bs_fold L x (hL x List.mem_cons_self) hL' p2 p1
      refine ⟨a, a1, Or.inr (a2.elim (fun e => by rw [e]; exact List.mem_cons_self) (fun z => List.mem_cons_of_mem _ z)), by omega, by omega, fun o ho => ?_⟩
      rcases List.mem_cons.mp ho with e | ho
      · rw [e]
        exact ⟨a3, a4⟩
      · exact a5 o ho
    · rw [if_neg c]
      obtain ⟨a, a1, a2, a3, a4, a5⟩ := bs_fold L p hW hL' p2 (fun o ho => hp o (List.mem_cons_of_mem _ ho))
      refine ⟨a, a1, a2.imp id (fun z => List.mem_cons_of_mem _ z), a3, a4, fun o ho => ?_⟩
      rcases List.mem_cons.mp ho with e | ho
      · rw [e]
        omega
      · exact a5 o ho
/-- the first with the fewest given has the least number of all -/
theorem bst_least {A : List UU} (hA : ∀ o, o ∈ A → OW w o) (hP : A.Pairwise (fun a b => rwN w a < rwN w b)) : (A = [] ∧ bst w A = none) ∨ ∃ a, bst w A = some a ∧ a ∈ A ∧ ∀ o, o ∈ A → kyN w a ≤ kyN w o ∧ gvn w a ≤ gvn w o := by
  cases A with
  | nil => exact Or.inl ⟨rfl, rfl⟩
  | cons x L =>
    right
    rw [List.pairwise_cons] at hP
    obtain ⟨a, a1, a2, a3, a4, a5⟩ := bs_fold L x (hA x List.mem_cons_self) (fun o ho => hA o (List.mem_cons_of_mem _ ho)) hP.2 hP.1
    refine ⟨a, a1, a2.elim (fun e => by rw [e]; exact List.mem_cons_self) (fun z => List.mem_cons_of_mem _ z), fun o ho => ?_⟩
    rcases List.mem_cons.mp ho with e | ho
    · rw [e]
      exact ⟨a3, a4⟩
    · exact a5 o ho
/-! the class's order -/
theorem fl_nd {g : Nat → List UU} (n : Nat) (h1 : ∀ T, T < n → (g T).Nodup) (h2 : ∀ T U, T < n → U < n → ∀ q, q ∈ g T → q ∈ g U → T = U) : (fl g n 0).Nodup := fl_pw n 0 (fun x _ hx => h1 x (by omega)) (fun x z _ hxz hz a ha b hb e => by
  subst e
  have := h2 x z (by omega) (by omega) a ha hb
  omega)
def usp (o : UU) (x T : Nat) : UU := fun b => if T.testBit b = true then nI x else o b
theorem usp_t (o : UU) (x : Nat) {T b : Nat} (h : T.testBit b = true) : usp o x T b = nI x := if_pos h
theorem usp_f (o : UU) (x : Nat) {T b : Nat} (h : T.testBit b = false) : usp o x T b = o b := if_neg (by rw [h]; decide)
def gT (G : Nat → Nat → UU → List UU) (f m : Nat) (o : UU) (x : Nat) : Nat → List UU := fun T => if T &&& f = T ∧ bc T ≤ m then G (nand f T) (m - bc T) (usp o x T) else []
def gsl (w : W_) (y : Nat) : Nat → Nat → Nat → UU → List UU
  | 0, _, _, o => if LB w y o = true then [o] else []
  | k + 1, f, m, o => if st w (nA w - (k + 1)) = true then fl (gT (gsl w y k) f m o (nA w - (k + 1))) (f + 1) 0 else gsl w y k f m o
theorem gsl_t {y k f m : Nat} {o : UU} (h : st w (nA w - (k + 1)) = true) : gsl w y (k + 1) f m o = fl (gT (gsl w y k) f m o (nA w - (k + 1))) (f + 1) 0 := by
  show (if _ then _ else _) = _
  rw [if_pos h]
theorem gsl_f {y k f m : Nat} {o : UU} (h : st w (nA w - (k + 1)) = false) : gsl w y (k + 1) f m o = gsl w y k f m o := by
  show (if _ then _ else _) = _
  rw [h, if_neg (by decide)]
/-- how many of f are given -/
def cq (f : Nat) (q : UU) : Nat := bc (f &&& mk (fun b => decide (¬ q b = -1)) 5)
theorem bc_split : ∀ a T : Fin 32, T.val &&& a.val = T.val → bc a.val = bc T.val + bc (nand a.val T.val) := by decide +kernel
theorem bit_5 {f b : Nat} (hf : f < 32) (h : f.testBit b = true) : b < 5 := by
  rcases Nat.lt_or_ge b 5 with q | q
  · exact q
  · have := Nat.testBit_lt_two_pow (x := f) (i := b) (Nat.lt_of_lt_of_le hf (Nat.pow_le_pow_right (n := 2) (by decide) q))
    rw [this] at h
    exact absurd h (by decide)
theorem gb5 {q : UU} {b : Nat} (hb : b < 5) : (mk (fun b => decide (¬ q b = -1)) 5).testBit b = true ↔ ¬ q b = -1 := by
  rw [mk_tb, decide_eq_true hb, Bool.true_and, decide_eq_true_eq]
theorem nand_32 {a b : Nat} (h : a < 32) : nand a b < 32 := Nat.lt_of_le_of_lt (nand_le (by
  rw [nand_0]
  intro i hi
  rw [nand_tb, Bool.and_eq_true] at hi
  exact hi.1)) h
theorem and_32 {a b : Nat} (h : a < 32) : a &&& b < 32 := Nat.lt_of_le_of_lt Nat.and_le_left h
theorem cq_split {f T : Nat} (hf : f < 32) {q : UU} (h1 : T &&& f = T) (h2 : ∀ b, T.testBit b = true → ¬ q b = -1) : cq f q = bc T + cq (nand f T) q := by
  have hT : T < 32 := by
    rw [← h1, Nat.and_comm]
    exact and_32 hf
  have e1 : T &&& (f &&& mk (fun b => decide (¬ q b = -1)) 5) = T := sub_and (fun b hb => by
    have h5 := bit_5 hT hb
    rw [Nat.testBit_and, and_sub h1 b hb, (gb5 h5).mpr (h2 b hb)]
    rfl)
  have e2 : nand (f &&& mk (fun b => decide (¬ q b = -1)) 5) T = nand f T &&& mk (fun b => decide (¬ q b = -1)) 5 := by
    apply Nat.eq_of_testBit_eq
    intro i
    rw [nand_tb, Nat.testBit_and, Nat.testBit_and, nand_tb]
    cases f.testBit i <;> cases T.testBit i <;> cases (mk (fun b => decide (¬ q b = -1)) 5).testBit i <;> rfl
  have := bc_split ⟨_, and_32 (b := mk (fun b => decide (¬ q b = -1)) 5) hf⟩ ⟨T, hT⟩ e1
  dsimp only at this
  unfold cq
  rw [this, e2]
theorem cq_0 {f : Nat} (hf : f < 32) {q : UU} (h : ∀ b, f.testBit b = true → q b = -1) : cq f q = 0 := by
  have : f &&& mk (fun b => decide (¬ q b = -1)) 5 = 0 := by
    apply Nat.eq_of_testBit_eq
    intro i
    rw [Nat.testBit_and, Nat.zero_testBit]
    cases hb : f.testBit i
    · rfl
    · have h5 := bit_5 hf hb
      cases hc : (mk (fun b => decide (¬ q b = -1)) 5).testBit i
      · rfl
      · exact absurd (h i hb) ((gb5 h5).mp hc)
  unfold cq
  rw [this]
  rfl
theorem nand_f {f T b : Nat} (h : f.testBit b = false) : (nand f T).testBit b = false := by rw [nand_tb, h]; rfl
theorem nand_t {f T b : Nat} (h : T.testBit b = true) : (nand f T).testBit b = false := by rw [nand_tb, h, Bool.not_true, Bool.and_false]
theorem nand_y {f T b : Nat} (h1 : f.testBit b = true) (h2 : T.testBit b = false) : (nand f T).testBit b = true := by rw [nand_tb, h1, h2]; rfl
theorem nand_ty {f T b : Nat} (h : (nand f T).testBit b = true) : f.testBit b = true ∧ T.testBit b = false := by
  rw [nand_tb, Bool.and_eq_true, Bool.not_eq_true'] at h
  exact h
theorem nand_yf {f T b : Nat} (h : (nand f T).testBit b = false) : f.testBit b = false ∨ T.testBit b = true := by
  cases h1 : f.testBit b
  · exact Or.inl rfl
  · cases h2 : T.testBit b
    · rw [nand_y h1 h2] at h
      exact absurd h (by decide)
    · exact Or.inr rfl
theorem gsl_mem (hW : WF w) (y : Nat) : ∀ k f m (o q : UU), k ≤ nA w → f < 32 → (∀ b, f.testBit b = true → o b = -1) → (q ∈ gsl w y k f m o ↔ (∀ b, f.testBit b = false → q b = o b) ∧ (∀ b, f.testBit b = true → q b = -1 ∨ ∃ x, nA w - k ≤ x ∧ x < nA w ∧ st w x = true ∧ q b = nI x) ∧ cq f q ≤ m ∧ LB w y q = true)
  | 0, f, m, o, q, _, hf, ho => by
    show q ∈ (if LB w y o = true then [o] else []) ↔ _
    constructor
    · intro h
      by_cases c : LB w y o = true
      · rw [if_pos c, List.mem_singleton] at h
        subst h
        exact ⟨fun _ _ => rfl, fun b hb => Or.inl (ho b hb), by rw [cq_0 hf ho]; exact Nat.zero_le m, c⟩
      · rw [if_neg c] at h
        exact absurd h List.not_mem_nil
    · intro ⟨h1, h2, _, h4⟩
      have e : q = o := by
        funext b
        cases hb : f.testBit b
        · exact h1 b hb
        · rcases h2 b hb with z | ⟨x, x1, x2, _⟩
          · rw [z, ho b hb]
          · omega
      subst e
      rw [if_pos h4]
      exact List.mem_singleton.mpr rfl
  | k + 1, f, m, o, q, hk, hf, ho => by
    have h8 := wf_A8 hW
    cases hs : st w (nA w - (k + 1))
    · rw [gsl_f hs, gsl_mem hW y k f m o q (by omega) hf ho]
      have e : ∀ b, (∃ x, nA w - k ≤ x ∧ x < nA w ∧ st w x = true ∧ q b = nI x) ↔ ∃ x, nA w - (k + 1) ≤ x ∧ x < nA w ∧ st w x = true ∧ q b = nI x := fun b => by
        constructor
        · rintro ⟨x, x1, x2⟩
          exact ⟨x, by omega, x2⟩
        · rintro ⟨x, x1, x2, x3, x4⟩
          refine ⟨x, ?_, x2, x3, x4⟩
          by_cases c : x = nA w - (k + 1)
          · rw [c, hs] at x3
            exact absurd x3 (by decide)
          · omega
      simp only [e]
    · rw [gsl_t hs, fl_mem2]
      generalize hp : nA w - (k + 1) = p at *
      have hpk : nA w - k = p + 1 := by omega
      constructor
      · rintro ⟨T, -, t1, t2⟩
        unfold gT at t2
        by_cases c : T &&& f = T ∧ bc T ≤ m
        · rw [if_pos c, gsl_mem hW y k (nand f T) (m - bc T) (usp o p T) q (by omega) (nand_32 hf) (fun b hb => by
            obtain ⟨b1, b2⟩ := nand_ty hb
            rw [usp_f _ _ b2, ho b b1])] at t2
          obtain ⟨q1, q2, q3, q4⟩ := t2
          have qT : ∀ b, T.testBit b = true → q b = nI p := fun b hb => by rw [q1 b (nand_t hb), usp_t _ _ hb]
          refine ⟨fun b hb => ?_, fun b hb => ?_, ?_, q4⟩
          · have hT : T.testBit b = false := by
              cases z : T.testBit b
              · rfl
              · rw [and_sub c.1 b z] at hb
                exact absurd hb (by decide)
            rw [q1 b (nand_f hb), usp_f _ _ hT]
          · cases z : T.testBit b
            · exact (q2 b (nand_y hb z)).imp id (fun ⟨x, x1, x2⟩ => ⟨x, by omega, x2⟩)
            · exact Or.inr ⟨p, Nat.le_refl p, by omega, hs, qT b z⟩
          · rw [cq_split hf c.1 (fun b hb => by rw [qT b hb]; exact nI_m1 (by omega))]
            have := c.2
            omega
        · rw [if_neg c] at t2
          exact absurd t2 List.not_mem_nil
      · intro ⟨h1, h2, h3, h4⟩
        have bT : ∀ b, (f &&& mk (fun b => decide (q b = nI p)) 5).testBit b = true ↔ f.testBit b = true ∧ q b = nI p := fun b => by
          rw [Nat.testBit_and, Bool.and_eq_true, mk_tb, Bool.and_eq_true, decide_eq_true_eq, decide_eq_true_eq]
          exact ⟨fun z => ⟨z.1, z.2.2⟩, fun z => ⟨z.1, bit_5 hf z.1, z.2⟩⟩
        have bF : ∀ b, (f &&& mk (fun b => decide (q b = nI p)) 5).testBit b = false → f.testBit b = true → ¬ q b = nI p := fun b z1 z2 z3 => by
          rw [(bT b).mpr ⟨z2, z3⟩] at z1
          exact absurd z1 (by decide)
        have hle : f &&& mk (fun b => decide (q b = nI p)) 5 ≤ f := Nat.and_le_left
        have hTf : (f &&& mk (fun b => decide (q b = nI p)) 5) &&& f = f &&& mk (fun b => decide (q b = nI p)) 5 := sub_and (fun b hb => ((bT b).mp hb).1)
        generalize f &&& mk (fun b => decide (q b = nI p)) 5 = T at *
        have hcq := cq_split hf hTf (q := q) (fun b hb => by rw [((bT b).mp hb).2]; exact nI_m1 (by omega))
        refine ⟨T, Nat.zero_le T, by omega, ?_⟩
        unfold gT
        rw [if_pos ⟨hTf, by omega⟩, gsl_mem hW y k (nand f T) (m - bc T) (usp o p T) q (by omega) (nand_32 hf) (fun b hb => by
            obtain ⟨b1, b2⟩ := nand_ty hb
            rw [usp_f _ _ b2, ho b b1])]
        refine ⟨fun b hb => ?_, fun b hb => ?_, by omega, h4⟩
        · rcases nand_yf hb with z | z
          · cases z2 : T.testBit b
            · rw [usp_f _ _ z2, h1 b z]
            · rw [((bT b).mp z2).1] at z
              exact absurd z (by decide)
          · rw [usp_t _ _ z, ((bT b).mp z).2]
        · obtain ⟨b1, b2⟩ := nand_ty hb
          rcases h2 b b1 with z | ⟨x, x1, x2, x3, x4⟩
          · exact Or.inl z
          · refine Or.inr ⟨x, ?_, x2, x3, x4⟩
            by_cases c : x = p
            · exact absurd (by rw [x4, c]) (bF b b2 b1)
            · omega
theorem gsl_nd (hW : WF w) (y : Nat) : ∀ k f m (o : UU), k ≤ nA w → f < 32 → (∀ b, f.testBit b = true → o b = -1) → (gsl w y k f m o).Nodup
  | 0, f, m, o, _, _, _ => by
    show (if LB w y o = true then [o] else []).Nodup
    split
    · exact List.pairwise_singleton _ _
    · exact List.Pairwise.nil
  | k + 1, f, m, o, hk, hf, ho => by
    have h8 := wf_A8 hW
    cases hs : st w (nA w - (k + 1))
    · rw [gsl_f hs]
      exact gsl_nd hW y k f m o (by omega) hf ho
    · rw [gsl_t hs]
      generalize hp : nA w - (k + 1) = p at *
      have ho2 : ∀ T b, (nand f T).testBit b = true → usp o p T b = -1 := fun T b hb => by
        obtain ⟨b1, b2⟩ := nand_ty hb
        rw [usp_f _ _ b2, ho b b1]
      -- the set is what q says of p
      have own : ∀ T q, q ∈ gT (gsl w y k) f m o p T → ∀ b, T.testBit b = true ↔ f.testBit b = true ∧ q b = nI p := fun T q h b => by
        unfold gT at h
        by_cases c : T &&& f = T ∧ bc T ≤ m
        · rw [if_pos c, gsl_mem hW y k (nand f T) (m - bc T) (usp o p T) q (by omega) (nand_32 hf) (ho2 T)] at h
          obtain ⟨q1, q2, -, -⟩ := h
          constructor
          · intro hb
            exact ⟨and_sub c.1 b hb, by rw [q1 b (nand_t hb), usp_t _ _ hb]⟩
          · intro ⟨b1, b2⟩
            cases z : T.testBit b
            · rcases q2 b (nand_y b1 z) with e | ⟨x, x1, x2, x3, x4⟩
              · rw [b2] at e
                exact absurd e (nI_m1 (by omega))
              · rw [b2] at x4
                have := (nI_eq (by omega) (by omega)).mp x4
                omega
            · rfl
        · rw [if_neg c] at h
          exact absurd h List.not_mem_nil
      refine fl_nd _ (fun T hT => ?_) (fun T U hT hU q q1 q2 => ?_)
      · unfold gT
        split
        · exact gsl_nd hW y k _ _ _ (by omega) (nand_32 hf) (ho2 T)
        · exact List.Pairwise.nil
      · apply Nat.eq_of_testBit_eq
        intro i
        have a := own T q q1 i
        have b := own U q q2 i
        cases z1 : T.testBit i
        · cases z2 : U.testBit i
          · rfl
          · rw [a.mpr (b.mp z2)] at z1
            exact absurd z1 (by decide)
        · rw [b.mpr (a.mp z1)]
end BA
