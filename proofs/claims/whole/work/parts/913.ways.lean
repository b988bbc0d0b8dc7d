/-! ===== ways: how many sawings, counted by the lowest ===== -/
section WY
variable {D : mx_D} {E : mx_E} {w : W_} {F : Nat}
def sg (n : Nat) (g : Nat → Int) : Int := fo (fun i s => s + g i) 0 n
theorem sg_s (n : Nat) (g : Nat → Int) : sg (n + 1) g = sg n g + g n := rfl
theorem sg_c {g h : Nat → Int} (n : Nat) (e : ∀ i, i < n → g i = h i) : sg n g = sg n h := fo_c n (fun i a hi => by rw [e i hi])
theorem sg_0 (n : Nat) : sg n (fun _ => 0) = 0 := by
  induction n with
  | zero => rfl
  | succ n ih => rw [sg_s, ih]; rfl
theorem sg_k (n : Nat) (k : Int) : sg n (fun _ => k) = n * k := by
  induction n with
  | zero => rw [Int.natCast_zero, Int.zero_mul]; rfl
  | succ n ih => rw [sg_s, ih, Int.natCast_succ, Int.add_mul, Int.one_mul]
theorem sg_app (n : Nat) (g : Nat → Int) : ∀ m, sg (n + m) g = sg n g + sg m (fun j => g (n + j))
  | 0 => (Int.add_zero _).symm
  | m + 1 => by
    rw [show n + (m + 1) = (n + m) + 1 from rfl, sg_s, sg_app n g m, sg_s, Int.add_assoc]
theorem sg_mix (r : Nat) (g : Nat → Int) : ∀ A, sg (A * r) g = sg A (fun a => sg r (fun b => g (a * r + b)))
  | 0 => by rw [Nat.zero_mul]; rfl
  | A + 1 => by rw [Nat.succ_mul, sg_app, sg_mix r g A, sg_s]
theorem sg_ml (n : Nat) (k : Int) (f : Nat → Int) : sg n (fun x => k * f x) = k * sg n f := by
  induction n with
  | zero => exact (Int.mul_zero k).symm
  | succ n ih => rw [sg_s, ih, sg_s, Int.mul_add]
theorem sg_mr (n : Nat) (k : Int) (f : Nat → Int) : sg n (fun x => f x * k) = sg n f * k := by
  induction n with
  | zero => exact (Int.zero_mul k).symm
  | succ n ih => rw [sg_s, ih, sg_s, Int.add_mul]
theorem sg_add (n : Nat) (f g : Nat → Int) : sg n (fun x => f x + g x) = sg n f + sg n g := by
  induction n with
  | zero => rfl
  | succ n ih => rw [sg_s, ih, sg_s, sg_s]; omega
theorem sg_sub (n : Nat) (f g : Nat → Int) : sg n (fun x => f x - g x) = sg n f - sg n g := by
  induction n with
  | zero => rfl
  | succ n ih => rw [sg_s, ih, sg_s, sg_s]; omega
theorem sg_swap (n k : Nat) (f : Nat → Nat → Int) : sg n (fun x => sg k (fun j => f x j)) = sg k (fun j => sg n (fun x => f x j)) := by
  induction n with
  | zero => exact (sg_0 k).symm
  | succ n ih =>
    rw [sg_s, ih, ← sg_add]
    rfl
/-- how many of 0 .. n less 1 are from p to q -/
theorem sg_rng (n : Nat) (p q : Int) : sg n (fun x => if p ≤ (x : Int) ∧ (x : Int) ≤ q then 1 else 0) = max 0 (min ((n : Int) - 1) q - max 0 p + 1) := by
  induction n with
  | zero =>
    show (0 : Int) = _
    omega
  | succ n ih =>
    rw [sg_s, ih]
    by_cases c : p ≤ (n : Int) ∧ (n : Int) ≤ q
    · rw [if_pos c]
      omega
    · rw [if_neg c]
      omega
theorem sg_one (n j : Nat) (c : Int) : sg n (fun k => if k = j then c else 0) = if j < n then c else 0 := by
  induction n with
  | zero => rfl
  | succ n ih =>
    rw [sg_s, ih]
    by_cases e : n = j
    · rw [if_pos e, if_neg (by omega), if_pos (by omega), Int.zero_add]
    · rw [if_neg e, Int.add_zero]
      by_cases h : j < n
      · rw [if_pos h, if_pos (by omega)]
      · rw [if_neg h, if_neg (by omega)]
def S4 (R : Nat → Nat) (f : Nat → Nat → Nat → Nat → Int) : Int := sg (R 0 + 1) (fun a => sg (R 1 + 1) (fun b => sg (R 2 + 1) (fun c => sg (R 3 + 1) (fun d => f a b c d))))
theorem S4_c {R : Nat → Nat} {f g : Nat → Nat → Nat → Nat → Int} (e : ∀ a b c d, a ≤ R 0 → b ≤ R 1 → c ≤ R 2 → d ≤ R 3 → f a b c d = g a b c d) : S4 R f = S4 R g :=
  sg_c _ (fun a ha => sg_c _ (fun b hb => sg_c _ (fun c hc => sg_c _ (fun d hd => e a b c d (by omega) (by omega) (by omega) (by omega)))))
theorem S4_sub (R : Nat → Nat) (f g : Nat → Nat → Nat → Nat → Int) : S4 R (fun a b c d => f a b c d - g a b c d) = S4 R f - S4 R g := by
  unfold S4
  simp only [sg_sub]
theorem S4_swap (R : Nat → Nat) (k : Nat) (f : Nat → Nat → Nat → Nat → Nat → Int) : S4 R (fun a b c d => sg k (fun j => f a b c d j)) = sg k (fun j => S4 R (fun a b c d => f a b c d j)) := by
  unfold S4
  have e3 : ∀ a b c, sg (R 3 + 1) (fun d => sg k (fun j => f a b c d j)) = sg k (fun j => sg (R 3 + 1) (fun d => f a b c d j)) := fun a b c => sg_swap _ _ _
  simp only [e3]
  have e2 : ∀ a b, sg (R 2 + 1) (fun c => sg k (fun j => sg (R 3 + 1) (fun d => f a b c d j))) = sg k (fun j => sg (R 2 + 1) (fun c => sg (R 3 + 1) (fun d => f a b c d j))) := fun a b => sg_swap _ _ (fun c j => sg (R 3 + 1) (fun d => f a b c d j))
  simp only [e2]
  have e1 : ∀ a, sg (R 1 + 1) (fun b => sg k (fun j => sg (R 2 + 1) (fun c => sg (R 3 + 1) (fun d => f a b c d j)))) = sg k (fun j => sg (R 1 + 1) (fun b => sg (R 2 + 1) (fun c => sg (R 3 + 1) (fun d => f a b c d j)))) := fun a => sg_swap _ _ (fun b j => sg (R 2 + 1) (fun c => sg (R 3 + 1) (fun d => f a b c d j)))
  simp only [e1]
  exact sg_swap _ _ (fun a j => sg (R 1 + 1) (fun b => sg (R 2 + 1) (fun c => sg (R 3 + 1) (fun d => f a b c d j))))
theorem S4_prod (R : Nat → Nat) (f0 f1 f2 f3 : Nat → Int) : S4 R (fun a b c d => f0 a * (f1 b * (f2 c * f3 d))) = sg (R 0 + 1) f0 * (sg (R 1 + 1) f1 * (sg (R 2 + 1) f2 * sg (R 3 + 1) f3)) := by
  unfold S4
  simp only [sg_ml, sg_mr]
def mkd (a b c d : Nat) : Nat → Nat := fun p => if p = 0 then a else if p = 1 then b else if p = 2 then c else d
theorem mkd_bx {R : Nat → Nat} {a b c d : Nat} (h0 : a ≤ R 0) (h1 : b ≤ R 1) (h2 : c ≤ R 2) (h3 : d ≤ R 3) : bx R (mkd a b c d) := fun p hp => by
  rcases (show p = 0 ∨ p = 1 ∨ p = 2 ∨ p = 3 by omega) with rfl | rfl | rfl | rfl
  · exact h0
  · exact h1
  · exact h2
  · exact h3
/-- the reference's count, pew by pew -/
theorem cnt_S4 (hW : WF w) {hs : Nat → Int} {S : Nat} (hS : sub S (nA w)) (L : Int) : (cntN w hs S L (tot (RM w)) : Int) = S4 (RM w) (fun a b c d => if offN w hs S (mkd a b c d) ≤ L then 1 else 0) := by
  have e : ∀ c, (cntN w hs S L c : Int) = sg c (fun i => if offN w hs S (vec (RM w) i) ≤ L then 1 else 0) := by
    intro c
    induction c with
    | zero => rfl
    | succ c ih =>
      have e2 : cntN w hs S L (c + 1) = cntN w hs S L c + (if offN w hs S (vec (RM w) c) ≤ L then 1 else 0) := rfl
      rw [e2, sg_s, ← ih, Int.natCast_add]
      split <;> rfl
  rw [e]
  unfold tot S4
  rw [sg_mix, sg_mix, sg_mix]
  refine sg_c _ (fun a ha => sg_c _ (fun b hb => sg_c _ (fun c hc => sg_c _ (fun d hd => ?_))))
  have hb4 : bx (RM w) (mkd a b c d) := mkd_bx (by omega) (by omega) (by omega) (by omega)
  have ec : ((a * (RM w 1 + 1) + b) * (RM w 2 + 1) + c) * (RM w 3 + 1) + d = cod (RM w) (mkd a b c d) := rfl
  rw [ec, offN_c hW hS (vec_cod hb4)]
/-- one pew's truth: x more sawn, its lowest is not below a, its tallest not above b -/
def al (T : Nat → Bool) (l t : Nat → Int) (a b : Int) (p : Nat) (x : Nat) : Int := if T p = false ∨ (a ≤ l p - x ∧ t p - x ≤ b) then 1 else 0
/-- how many such x -/
def om (T : Nat → Bool) (l t : Nat → Int) (R : Nat → Nat) (a b : Int) (p : Nat) : Int := if T p = true then max 0 (min (R p : Int) (l p - a) - max 0 (t p - b) + 1) else (R p : Int) + 1
theorem sg_al (T : Nat → Bool) (l t : Nat → Int) (R : Nat → Nat) (a b : Int) (p : Nat) : sg (R p + 1) (al T l t a b p) = om T l t R a b p := by
  unfold om
  cases hT : T p
  · rw [if_neg (by decide)]
    have : sg (R p + 1) (al T l t a b p) = sg (R p + 1) (fun _ => 1) := sg_c _ (fun i _ => by unfold al; rw [hT, if_pos (Or.inl rfl)])
    rw [this, sg_k, Int.mul_one, Int.natCast_succ]
  · rw [if_pos rfl]
    have : sg (R p + 1) (al T l t a b p) = sg (R p + 1) (fun x => if t p - b ≤ (x : Int) ∧ (x : Int) ≤ l p - a then 1 else 0) := sg_c _ (fun i _ => by
      unfold al
      rw [hT]
      by_cases c : t p - b ≤ (i : Int) ∧ (i : Int) ≤ l p - a
      · rw [if_pos c, if_pos (Or.inr ⟨by omega, by omega⟩)]
      · rw [if_neg c, if_neg (fun q => q.elim (fun z => absurd z (by decide)) (fun z => c ⟨by omega, by omega⟩))])
    rw [this, sg_rng, Int.natCast_succ]
    congr 2
    omega
theorem al_prod (T : Nat → Bool) (l t : Nat → Int) (a b : Int) (d : Nat → Nat) : al T l t a b 0 (d 0) * (al T l t a b 1 (d 1) * (al T l t a b 2 (d 2) * al T l t a b 3 (d 3))) = 1 ∧ (∀ p, p < 4 → T p = true → a ≤ l p - d p ∧ t p - d p ≤ b) ∨ al T l t a b 0 (d 0) * (al T l t a b 1 (d 1) * (al T l t a b 2 (d 2) * al T l t a b 3 (d 3))) = 0 ∧ ∃ p, p < 4 ∧ T p = true ∧ ¬ (a ≤ l p - d p ∧ t p - d p ≤ b) := by
  have one : ∀ p, al T l t a b p (d p) = 1 ∧ (T p = true → a ≤ l p - d p ∧ t p - d p ≤ b) ∨ al T l t a b p (d p) = 0 ∧ T p = true ∧ ¬ (a ≤ l p - d p ∧ t p - d p ≤ b) := fun p => by
    unfold al
    cases hT : T p
    · rw [if_pos (Or.inl rfl)]
      exact Or.inl ⟨rfl, fun e => absurd e (by decide)⟩
    · by_cases c : a ≤ l p - d p ∧ t p - d p ≤ b
      · rw [if_pos (Or.inr c)]
        exact Or.inl ⟨rfl, fun _ => c⟩
      · rw [if_neg (fun q => q.elim (fun z => absurd z (by decide)) c)]
        exact Or.inr ⟨rfl, rfl, c⟩
  rcases one 0 with ⟨e0, h0⟩ | ⟨e0, h0⟩
  · rcases one 1 with ⟨e1, h1⟩ | ⟨e1, h1⟩
    · rcases one 2 with ⟨e2, h2⟩ | ⟨e2, h2⟩
      · rcases one 3 with ⟨e3, h3⟩ | ⟨e3, h3⟩
        · refine Or.inl ⟨by rw [e0, e1, e2, e3]; rfl, fun p hp => ?_⟩
          rcases (show p = 0 ∨ p = 1 ∨ p = 2 ∨ p = 3 by omega) with rfl | rfl | rfl | rfl
          · exact h0
          · exact h1
          · exact h2
          · exact h3
        · exact Or.inr ⟨by rw [e3]; simp, 3, by decide, h3⟩
      · exact Or.inr ⟨by rw [e2]; simp, 2, by decide, h2⟩
    · exact Or.inr ⟨by rw [e1]; simp, 1, by decide, h1⟩
  · exact Or.inr ⟨by rw [e0]; simp, 0, by decide, h0⟩
theorem ex_min (T : Nat → Bool) (f : Nat → Int) : ∀ n, (∃ p, p < n ∧ T p = true) → ∃ q, q < n ∧ T q = true ∧ ∀ p, p < n → T p = true → f q ≤ f p
  | 0, ⟨p, hp, _⟩ => absurd hp (Nat.not_lt_zero p)
  | n + 1, ⟨p, hp, hT⟩ => by
    by_cases h : ∃ p, p < n ∧ T p = true
    · obtain ⟨q, q1, q2, q3⟩ := ex_min T f n h
      by_cases c : T n = true ∧ f n < f q
      · refine ⟨n, Nat.lt_succ_self n, c.1, fun p hp hT => ?_⟩
        by_cases e : p = n
        · rw [e]; exact Int.le_refl _
        · have := q3 p (by omega) hT
          omega
      · refine ⟨q, by omega, q2, fun p hp hT => ?_⟩
        by_cases e : p = n
        · subst e
          have : ¬ f p < f q := fun z => c ⟨hT, z⟩
          omega
        · exact q3 p (by omega) hT
    · have e : p = n := by
        by_cases e : p = n
        · exact e
        · exact absurd ⟨p, by omega, hT⟩ h
      subst e
      refine ⟨p, Nat.lt_succ_self p, hT, fun q hq hTq => ?_⟩
      by_cases e : q = p
      · rw [e]; exact Int.le_refl _
      · exact absurd ⟨q, by omega, hTq⟩ h
/-- level or not, as a sum by the lowest -/
theorem ind_lo {T : Nat → Bool} {l t : Nat → Int} {h V : Int} (hq : ∃ q, q < 4 ∧ T q = true ∧ h = l q) (hm : ∀ p, p < 4 → T p = true → h ≤ l p) {d : Nat → Nat} (hd : ∀ p, p < 4 → d p ≤ 9) {c : Int} (h1 : (∀ p q, p < 4 → q < 4 → T p = true → T q = true → (t p - d p) - (l q - d q) ≤ V) → c = 1) (h0 : ¬ (∀ p q, p < 4 → q < 4 → T p = true → T q = true → (t p - d p) - (l q - d q) ≤ V) → c = 0) : c = sg 10 (fun k => al T l t (h - 9 + k) (h - 9 + k + V) 0 (d 0) * (al T l t (h - 9 + k) (h - 9 + k + V) 1 (d 1) * (al T l t (h - 9 + k) (h - 9 + k + V) 2 (d 2) * al T l t (h - 9 + k) (h - 9 + k + V) 3 (d 3))) - al T l t (h - 9 + k + 1) (h - 9 + k + V) 0 (d 0) * (al T l t (h - 9 + k + 1) (h - 9 + k + V) 1 (d 1) * (al T l t (h - 9 + k + 1) (h - 9 + k + V) 2 (d 2) * al T l t (h - 9 + k + 1) (h - 9 + k + V) 3 (d 3)))) := by
  obtain ⟨q, q1, q2, q3⟩ := hq
  obtain ⟨z, z1, z2, z3⟩ := ex_min T (fun p => l p - d p) 4 ⟨q, q1, q2⟩
  obtain ⟨y, y1, y2, y3⟩ := ex_min T (fun p => -(t p - d p)) 4 ⟨q, q1, q2⟩
  have z3 : ∀ p, p < 4 → T p = true → l z - d z ≤ l p - d p := z3
  have y3 : ∀ p, p < 4 → T p = true → -(t y - d y) ≤ -(t p - d p) := y3
  have dz := hd z z1
  have dq := hd q q1
  have lz := hm z z1 z2
  have lq := z3 q q1 q2
  have all : (∀ p q, p < 4 → q < 4 → T p = true → T q = true → (t p - d p) - (l q - d q) ≤ V) ↔ t y - d y ≤ l z - d z + V := by
    constructor
    · intro hh
      have := hh y z y1 z1 y2 z2
      omega
    · intro hh p q hp hq tp tq
      have := y3 p hp tp
      have := z3 q hq tq
      omega
  -- the lowest's own number
  obtain ⟨j, hj, ej⟩ : ∃ j : Nat, j < 10 ∧ l z - d z = h - 9 + j := ⟨(l z - d z - (h - 9)).toNat, by omega, by omega⟩
  have term : ∀ k : Nat, al T l t (h - 9 + k) (h - 9 + k + V) 0 (d 0) * (al T l t (h - 9 + k) (h - 9 + k + V) 1 (d 1) * (al T l t (h - 9 + k) (h - 9 + k + V) 2 (d 2) * al T l t (h - 9 + k) (h - 9 + k + V) 3 (d 3))) - al T l t (h - 9 + k + 1) (h - 9 + k + V) 0 (d 0) * (al T l t (h - 9 + k + 1) (h - 9 + k + V) 1 (d 1) * (al T l t (h - 9 + k + 1) (h - 9 + k + V) 2 (d 2) * al T l t (h - 9 + k + 1) (h - 9 + k + V) 3 (d 3))) = if k = j then c else 0 := fun k => by
    have pa : (∀ p, p < 4 → T p = true → h - 9 + k ≤ l p - d p ∧ t p - d p ≤ h - 9 + k + V) ↔ (h - 9 + k ≤ l z - d z ∧ t y - d y ≤ h - 9 + k + V) := by
      constructor
      · intro hh
        exact ⟨(hh z z1 z2).1, (hh y y1 y2).2⟩
      · rintro ⟨u1, u2⟩ p hp tp
        have := y3 p hp tp
        have := z3 p hp tp
        exact ⟨by omega, by omega⟩
    have pb : (∀ p, p < 4 → T p = true → h - 9 + k + 1 ≤ l p - d p ∧ t p - d p ≤ h - 9 + k + V) ↔ (h - 9 + k + 1 ≤ l z - d z ∧ t y - d y ≤ h - 9 + k + V) := by
      constructor
      · intro hh
        exact ⟨(hh z z1 z2).1, (hh y y1 y2).2⟩
      · rintro ⟨u1, u2⟩ p hp tp
        have := y3 p hp tp
        have := z3 p hp tp
        exact ⟨by omega, by omega⟩
    have hc : (t y - d y ≤ l z - d z + V ∧ c = 1) ∨ (¬ t y - d y ≤ l z - d z + V ∧ c = 0) := by
      by_cases e : t y - d y ≤ l z - d z + V
      · exact Or.inl ⟨e, h1 (all.mpr e)⟩
      · exact Or.inr ⟨e, h0 (fun hh => e (all.mp hh))⟩
    have na : ∀ {a b : Int}, (∃ p, p < 4 ∧ T p = true ∧ ¬ (a ≤ l p - d p ∧ t p - d p ≤ b)) → ¬ ∀ p, p < 4 → T p = true → a ≤ l p - d p ∧ t p - d p ≤ b := fun ⟨p, p1, p2, p3⟩ hh => p3 (hh p p1 p2)
    rcases al_prod T l t (h - 9 + k) (h - 9 + k + V) d with ⟨a1, a2⟩ | ⟨a1, a2⟩
    · have a3 := pa.mp a2
      rcases al_prod T l t (h - 9 + k + 1) (h - 9 + k + V) d with ⟨b1, b2⟩ | ⟨b1, b2⟩
      · have b3 := pb.mp b2
        rw [a1, b1, if_neg (by omega)]
        rfl
      · have b3 : ¬ _ := fun hh => na b2 (pb.mpr hh)
        rw [a1, b1, if_pos (by omega)]
        omega
    · have a3 : ¬ _ := fun hh => na a2 (pa.mpr hh)
      rcases al_prod T l t (h - 9 + k + 1) (h - 9 + k + V) d with ⟨b1, b2⟩ | ⟨b1, b2⟩
      · have b3 := pb.mp b2
        omega
      · rw [a1, b1]
        by_cases e : k = j
        · rw [if_pos e]
          omega
        · rw [if_neg e]
          rfl
  rw [sg_c 10 (fun k _ => term k), sg_one, if_pos hj]
/-- all sawings by which it is level, by all, someone sits: counted by the lowest -/
theorem cnt_lo (hW : WF w) (hba : ba w = true) {hs : Nat → Int} (hb : ∀ x, x < nA w → -9000 < hs x ∧ hs x < 9000) {S : Nat} (hS : sub S (nA w)) (hst : ∀ x, S.testBit x = true → st w x = true) {V : Int} (hV : 0 ≤ V) {h : Int} (hq : ∃ q, q < 4 ∧ tk w S q = true ∧ h = lw w hs S q) (hm : ∀ p, p < 4 → tk w S p = true → h ≤ lw w hs S p) : (cntN w hs S V (tot (RM w)) : Int) = sg 10 (fun k => om (tk w S) (lw w hs S) (tt w hs S) (RM w) (h - 9 + k) (h - 9 + k + V) 0 * (om (tk w S) (lw w hs S) (tt w hs S) (RM w) (h - 9 + k) (h - 9 + k + V) 1 * (om (tk w S) (lw w hs S) (tt w hs S) (RM w) (h - 9 + k) (h - 9 + k + V) 2 * om (tk w S) (lw w hs S) (tt w hs S) (RM w) (h - 9 + k) (h - 9 + k + V) 3)) - om (tk w S) (lw w hs S) (tt w hs S) (RM w) (h - 9 + k + 1) (h - 9 + k + V) 0 * (om (tk w S) (lw w hs S) (tt w hs S) (RM w) (h - 9 + k + 1) (h - 9 + k + V) 1 * (om (tk w S) (lw w hs S) (tt w hs S) (RM w) (h - 9 + k + 1) (h - 9 + k + V) 2 * om (tk w S) (lw w hs S) (tt w hs S) (RM w) (h - 9 + k + 1) (h - 9 + k + V) 3))) := by
  have n9 : ∀ {d : Nat → Nat}, bx (RM w) d → ∀ p, p < 4 → d p ≤ 9 := fun hd p hp => by
    have := hd p hp
    have := RM_9 hW hp
    omega
  rw [cnt_S4 hW hS, S4_c (fun a b c d h0 h1 h2 h3 => ind_lo (T := tk w S) (l := lw w hs S) (t := tt w hs S) (V := V) hq hm (d := mkd a b c d) (n9 (mkd_bx h0 h1 h2 h3)) (fun hh => if_pos (by
    rw [offN_I, offI_all hW hba hb hS hst (fun p hp => ⟨Int.natCast_nonneg _, by have := n9 (mkd_bx h0 h1 h2 h3) p hp; show ((mkd a b c d p : Nat) : Int) ≤ 9; omega⟩) hV]
    exact hh)) (fun hh => if_neg (fun z => hh (by
    rw [offN_I, offI_all hW hba hb hS hst (fun p hp => ⟨Int.natCast_nonneg _, by have := n9 (mkd_bx h0 h1 h2 h3) p hp; show ((mkd a b c d p : Nat) : Int) ≤ 9; omega⟩) hV] at z
    exact z)))), S4_swap]
  refine sg_c 10 (fun k _ => ?_)
  show S4 (RM w) (fun a b c d => al _ _ _ _ _ 0 a * (al _ _ _ _ _ 1 b * (al _ _ _ _ _ 2 c * al _ _ _ _ _ 3 d)) - al _ _ _ _ _ 0 a * (al _ _ _ _ _ 1 b * (al _ _ _ _ _ 2 c * al _ _ _ _ _ 3 d))) = _
  rw [S4_sub, S4_prod, S4_prod, sg_al, sg_al, sg_al, sg_al, sg_al, sg_al, sg_al, sg_al]
end WY
