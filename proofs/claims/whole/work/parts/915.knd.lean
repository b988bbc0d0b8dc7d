/-! ===== kinds: groups as colours, the lowest may have whoever fits ===== -/
section KN
/-- the next lower part of a set -/
theorem prevS : ∀ (o s T : Nat), o &&& s = o → T &&& s = T → T < o → T ≤ (o - 1) &&& s := by
  intro o
  induction o using Nat.strongRecOn with
  | _ o ih =>
    intro s T ho hT h
    have o2 : o / 2 &&& s / 2 = o / 2 := by rw [← Nat.and_div_two, ho]
    have T2 : T / 2 &&& s / 2 = T / 2 := by rw [← Nat.and_div_two, hT]
    have tm : T % 2 = 1 → s % 2 = 1 := fun e => by
      rw [← hT] at e
      exact (Nat.and_mod_two_eq_one.mp e).2
    have X2 : ((o - 1) &&& s) / 2 = (o - 1) / 2 &&& s / 2 := Nat.and_div_two
    have Xm : ((o - 1) &&& s) % 2 = 1 ↔ (o - 1) % 2 = 1 ∧ s % 2 = 1 := Nat.and_mod_two_eq_one
    by_cases c : o % 2 = 1
    · have e : (o - 1) / 2 = o / 2 := by omega
      rw [e, o2] at X2
      omega
    · have e : (o - 1) / 2 = o / 2 - 1 := by omega
      rw [e] at X2
      have q := ih (o / 2) (by omega) (s / 2) (T / 2) o2 T2 (by omega)
      rw [← X2] at q
      by_cases c2 : T % 2 = 1
      · have := Xm.mpr ⟨by omega, tm c2⟩
        omega
      · omega
theorem nand_and {a b : Nat} (h : nand a b = 0) : a &&& b = a := by
  apply Nat.eq_of_testBit_eq
  intro i
  rw [Nat.testBit_and]
  cases ha : a.testBit i
  · rfl
  · rw [nand_sub h i ha]
    rfl
theorem and_nand {a b : Nat} (h : a &&& b = a) : nand a b = 0 := by
  unfold nand
  rw [h, Nat.xor_self]
theorem and_sub {a b : Nat} (h : a &&& b = a) (x : Nat) (hx : a.testBit x = true) : b.testBit x = true := by
  rw [← h, Nat.testBit_and, Bool.and_eq_true] at hx
  exact hx.2
theorem sub_and {a b : Nat} (h : ∀ x, a.testBit x = true → b.testBit x = true) : a &&& b = a := by
  apply Nat.eq_of_testBit_eq
  intro i
  rw [Nat.testBit_and]
  cases ha : a.testBit i
  · rfl
  · rw [h i ha]
    rfl
theorem sg_mono {f g : Nat → Int} (n : Nat) (h : ∀ i, i < n → f i ≤ g i) : sg n f ≤ sg n g := by
  induction n with
  | zero => exact Int.le_refl _
  | succ n ih =>
    have := ih (fun i hi => h i (by omega))
    have := h n (Nat.lt_succ_self n)
    rw [sg_s, sg_s]
    omega
theorem sg_d {f f' : Nat → Int} {n x : Nat} (hx : x < n) (h : ∀ j, j ≠ x → f' j = f j) : sg n f' = sg n f + (f' x - f x) := by
  induction n with
  | zero => exact absurd hx (Nat.not_lt_zero x)
  | succ n ih =>
    rw [sg_s, sg_s]
    by_cases e : x = n
    · subst e
      rw [sg_c x (fun i hi => h i (by omega))]
      omega
    · rw [ih (by omega), h n (by omega)]
      omega
theorem sg_swp {f f' : Nat → Int} {n x y : Nat} (hx : x < n) (hy : y < n) (hxy : x ≠ y) (h1 : f' x = f y) (h2 : f' y = f x) (h : ∀ j, j ≠ x → j ≠ y → f' j = f j) : sg n f' = sg n f := by
  rw [sg_d (f := fun j => if j = x then f y else f j) hy (fun j hj => by
    by_cases e : j = x
    · rw [if_pos e, e, h1]
    · rw [if_neg e, h j e hj]), sg_d (f := f) (f' := fun j => if j = x then f y else f j) hx (fun j hj => if_neg hj)]
  rw [if_pos rfl, if_neg (fun e => hxy e.symm), h2]
  omega
theorem sg_ex {f : Nat → Int} {n : Nat} (h : 0 < sg n f) : ∃ j, j < n ∧ 0 < f j := by
  induction n with
  | zero => exact absurd h (Int.lt_irrefl 0)
  | succ n ih =>
    rw [sg_s] at h
    by_cases c : 0 < f n
    · exact ⟨n, Nat.lt_succ_self n, c⟩
    · obtain ⟨j, hj, hf⟩ := ih (by omega)
      exact ⟨j, by omega, hf⟩
theorem sg_nn {f : Nat → Int} (n : Nat) (h : ∀ i, i < n → 0 ≤ f i) : 0 ≤ sg n f := by
  rw [← sg_0 n]
  exact sg_mono n h
/-- S put into K groups, no more than P in one, none further apart than L -/
def OKc (hs : Nat → Int) (L P : Int) (S : Nat) (c : Nat → Nat) (K : Nat) : Prop := (∀ x, S.testBit x = true → c x < K) ∧ (∀ x y, S.testBit x = true → S.testBit y = true → c x = c y → hs x - hs y ≤ L) ∧ ∀ k, sg 8 (fun x => if S.testBit x = true ∧ c x = k then 1 else 0) ≤ P
def col (hs : Nat → Int) (L P : Int) (S K : Nat) : Prop := ∃ c, OKc hs L P S c K
variable {hs : Nat → Int} {L P : Int}
theorem REL {S S' K q : Nat} {c : Nat → Nat} (h : OKc hs L P S c K) (hq : q < K) (hS : ∀ x, S'.testBit x = true → S.testBit x = true ∧ c x ≠ q) : col hs L P S' (K - 1) := by
  obtain ⟨h1, h2, h3⟩ := h
  refine ⟨fun x => if c x = K - 1 then q else c x, fun x hx => ?_, fun x y hx hy e => ?_, fun k => ?_⟩
  · obtain ⟨q1, q2⟩ := hS x hx
    have := h1 x q1
    dsimp only
    split <;> omega
  · obtain ⟨q1, q2⟩ := hS x hx
    obtain ⟨q3, q4⟩ := hS y hy
    refine h2 x y q1 q3 ?_
    dsimp only at e
    split at e <;> split at e <;> omega
  · by_cases e : k = q
    · refine Int.le_trans (sg_mono 8 (fun x _ => ?_)) (h3 (K - 1))
      dsimp only
      by_cases c1 : S'.testBit x = true ∧ (if c x = K - 1 then q else c x) = k
      · obtain ⟨q1, q2⟩ := hS x c1.1
        have c2 := c1.2
        rw [if_pos c1, if_pos ⟨q1, by split at c2 <;> omega⟩]
        exact Int.le_refl _
      · rw [if_neg c1]
        split <;> decide
    · refine Int.le_trans (sg_mono 8 (fun x _ => ?_)) (h3 k)
      dsimp only
      by_cases c1 : S'.testBit x = true ∧ (if c x = K - 1 then q else c x) = k
      · obtain ⟨q1, q2⟩ := hS x c1.1
        have c2 := c1.2
        rw [if_pos c1, if_pos ⟨q1, by split at c2 <;> omega⟩]
        exact Int.le_refl _
      · rw [if_neg c1]
        split <;> decide
theorem bc_sg (T : Nat) : (bc T : Int) = sg 8 (fun x => if T.testBit x = true then 1 else 0) := by
  have : ∀ n, ((fo (fun x s => s + (if T.testBit x then 1 else 0)) 0 n : Nat) : Int) = sg n (fun x => if T.testBit x = true then 1 else 0) := by
    intro n
    induction n with
    | zero => rfl
    | succ n ih =>
      rw [fo_s, sg_s, ← ih, Int.natCast_add]
      split <;> rfl
  exact this 8
/-- one group more -/
theorem ADD {S S1 T g : Nat} (h : col hs L P S1 g) (hT : (bc T : Int) ≤ P) (hp : ∀ x y, T.testBit x = true → T.testBit y = true → hs x - hs y ≤ L) (hS : ∀ x, S.testBit x = true → S1.testBit x = true ∨ T.testBit x = true) (hd : ∀ x, S1.testBit x = true → T.testBit x = false) : col hs L P S (g + 1) := by
  obtain ⟨c, h1, h2, h3⟩ := h
  have out : ∀ x, S.testBit x = true → T.testBit x = false → S1.testBit x = true := fun x hx ht => by
    rcases hS x hx with q | q
    · exact q
    · rw [ht] at q
      exact absurd q (by decide)
  refine ⟨fun x => if T.testBit x = true then g else c x, fun x hx => ?_, fun x y hx hy e => ?_, fun k => ?_⟩
  · dsimp only
    cases ht : T.testBit x
    · rw [if_neg (by decide)]
      have := h1 x (out x hx ht)
      omega
    · rw [if_pos rfl]
      exact Nat.lt_succ_self g
  · dsimp only at e
    cases ht : T.testBit x
    · rw [ht, if_neg (by decide)] at e
      have hx1 := h1 x (out x hx ht)
      cases hu : T.testBit y
      · rw [hu, if_neg (by decide)] at e
        exact h2 x y (out x hx ht) (out y hy hu) e
      · rw [hu, if_pos rfl] at e
        omega
    · rw [ht, if_pos rfl] at e
      cases hu : T.testBit y
      · rw [hu, if_neg (by decide)] at e
        have := h1 y (out y hy hu)
        omega
      · exact hp x y ht hu
  · by_cases e : k = g
    · refine Int.le_trans ?_ hT
      rw [bc_sg]
      refine sg_mono 8 (fun x _ => ?_)
      dsimp only
      by_cases c1 : S.testBit x = true ∧ (if T.testBit x = true then g else c x) = k
      · rw [if_pos c1]
        cases ht : T.testBit x
        · have := h1 x (out x c1.1 ht)
          have c2 := c1.2
          rw [ht, if_neg (by decide)] at c2
          omega
        · rw [if_pos rfl]
          exact Int.le_refl _
      · rw [if_neg c1]
        split <;> decide
    · refine Int.le_trans (sg_mono 8 (fun x _ => ?_)) (h3 k)
      dsimp only
      by_cases c1 : S.testBit x = true ∧ (if T.testBit x = true then g else c x) = k
      · rw [if_pos c1]
        cases ht : T.testBit x
        · have c2 := c1.2
          rw [ht, if_neg (by decide)] at c2
          rw [if_pos ⟨out x c1.1 ht, c2⟩]
          exact Int.le_refl _
        · have c2 := c1.2
          rw [ht, if_pos rfl] at c2
          exact absurd c2.symm e
      · rw [if_neg c1]
        split <;> decide
/-- places s up to n -/
def iv (s n : Nat) : Nat := mk (fun j => decide (s ≤ j)) n
theorem iv_tb {s n j : Nat} : (iv s n).testBit j = true ↔ s ≤ j ∧ j < n := by
  unfold iv
  rw [mk_tb, Bool.and_eq_true, decide_eq_true_eq, decide_eq_true_eq]
  exact ⟨fun h => ⟨h.2, h.1⟩, fun h => ⟨h.2, h.1⟩⟩
/-- the lowest's group may as well be those next to it -/
theorem EXL {H : Nat → Int} {n s t K p : Nat} (hP : P = (p : Int)) (hn : n ≤ 8) (hs : ∀ i j, i ≤ j → j < n → H i ≤ H j) (st : s < t) (tn : t ≤ n) (brk : t = n ∨ t = s + p ∨ L < H t - H s) (hin : ∀ j, s ≤ j → j < t → H j - H s ≤ L) (hL : 0 ≤ L) : ∀ (m : Nat) (c : Nat → Nat), OKc H L P (iv s n) c K → sg 8 (fun j => if (iv t n).testBit j = true ∧ c j = c s then 1 else 0) = (m : Int) → col H L P (iv t n) (K - 1) := by
  intro m
  induction m with
  | zero =>
    intro c hc hm
    refine REL hc (hc.1 s (iv_tb.mpr ⟨Nat.le_refl s, by omega⟩)) (fun x hx => ?_)
    have hx' := iv_tb.mp hx
    refine ⟨iv_tb.mpr ⟨by omega, hx'.2⟩, fun e => ?_⟩
    have h1 : sg 8 (fun j => if j = x then (1 : Int) else 0) ≤ sg 8 (fun j => if (iv t n).testBit j = true ∧ c j = c s then 1 else 0) := sg_mono 8 (fun i _ => by
      by_cases z : i = x
      · rw [if_pos z, z, if_pos ⟨hx, e⟩]
        exact Int.le_refl _
      · rw [if_neg z]
        split <;> decide)
    rw [sg_one, if_pos (by omega), hm] at h1
    exact absurd h1 (by decide)
  | succ m ih =>
    intro c hc hm
    obtain ⟨h1, h2, h3⟩ := hc
    obtain ⟨x, x8, hx⟩ := sg_ex (f := fun j => if (iv t n).testBit j = true ∧ c j = c s then (1 : Int) else 0) (n := 8) (by rw [hm]; omega)
    have hx2 : (iv t n).testBit x = true ∧ c x = c s := by
      by_cases z : (iv t n).testBit x = true ∧ c x = c s
      · exact z
      · rw [if_neg z] at hx
        exact absurd hx (by decide)
    obtain ⟨x1, x2⟩ := hx2
    have x1' := iv_tb.mp x1
    have ss : (iv s n).testBit s = true := iv_tb.mpr ⟨Nat.le_refl s, by omega⟩
    have sx : (iv s n).testBit x = true := iv_tb.mpr ⟨by omega, x1'.2⟩
    have hxs : H x - H s ≤ L := h2 x s sx ss x2
    have tp : t = s + p := by
      rcases brk with q | q | q
      · omega
      · exact q
      · have := hs t x x1'.1 x1'.2
        omega
    -- someone next to the lowest is in another group
    have hy : ∃ y, s ≤ y ∧ y < t ∧ c y ≠ c s := by
      by_cases z : ∃ y, s ≤ y ∧ y < t ∧ c y ≠ c s
      · exact z
      · exfalso
        have all : ∀ y, s ≤ y → y < t → c y = c s := fun y q1 q2 => by
          by_cases e : c y = c s
          · exact e
          · exact absurd ⟨y, q1, q2, e⟩ z
        have g1 : sg 8 (fun j => if j = x then (1 : Int) else if (s : Int) ≤ (j : Int) ∧ (j : Int) ≤ (t : Int) - 1 then 1 else 0) ≤ sg 8 (fun j => if (iv s n).testBit j = true ∧ c j = c s then 1 else 0) := sg_mono 8 (fun i _ => by
          by_cases e : i = x
          · rw [if_pos e, e, if_pos ⟨sx, x2⟩]
            exact Int.le_refl _
          · rw [if_neg e]
            by_cases e2 : (s : Int) ≤ (i : Int) ∧ (i : Int) ≤ (t : Int) - 1
            · rw [if_pos e2, if_pos ⟨iv_tb.mpr ⟨by omega, by omega⟩, all i (by omega) (by omega)⟩]
              exact Int.le_refl _
            · rw [if_neg e2]
              split <;> decide)
        have g2 := sg_d (f := fun j => if (s : Int) ≤ (j : Int) ∧ (j : Int) ≤ (t : Int) - 1 then (1 : Int) else 0) (f' := fun j => if j = x then (1 : Int) else if (s : Int) ≤ (j : Int) ∧ (j : Int) ≤ (t : Int) - 1 then 1 else 0) x8 (fun j hj => if_neg hj)
        rw [sg_rng] at g2
        rw [if_pos rfl, if_neg (fun e => by omega)] at g2
        have := h3 (c s)
        omega
    obtain ⟨y, y1, y2, y3⟩ := hy
    have sy : (iv s n).testBit y = true := iv_tb.mpr ⟨y1, by omega⟩
    have xy : x ≠ y := by omega
    have ys : y ≠ s := fun e => y3 (by rw [e])
    have xs : x ≠ s := by omega
    have lowS : ∀ j, (iv s n).testBit j = true → H s ≤ H j := fun j hj => by
      have := iv_tb.mp hj
      exact hs s j this.1 this.2
    have c'x : (fun j => if j = x then c y else if j = y then c s else c j) x = c y := if_pos rfl
    have c'y : (fun j => if j = x then c y else if j = y then c s else c j) y = c s := by
      show (if y = x then c y else if y = y then c s else c y) = c s
      rw [if_neg (fun e => xy e.symm), if_pos rfl]
    have c'o : ∀ j, j ≠ x → j ≠ y → (fun j => if j = x then c y else if j = y then c s else c j) j = c j := fun j q1 q2 => by
      show (if j = x then c y else if j = y then c s else c j) = c j
      rw [if_neg q1, if_neg q2]
    have c's := c'o s (fun e => xs e.symm) (fun e => ys e.symm)
    generalize (fun j => if j = x then c y else if j = y then c s else c j) = c' at c'x c'y c'o c's
    refine ih c' ⟨fun j hj => ?_, fun i j hi hj e => ?_, fun k => ?_⟩ ?_
    · by_cases e1 : j = x
      · rw [e1, c'x]
        exact h1 y sy
      · by_cases e2 : j = y
        · rw [e2, c'y]
          exact h1 s ss
        · rw [c'o j e1 e2]
          exact h1 j hj
    · have li := lowS i hi
      have lj := lowS j hj
      by_cases i1 : i = x
      · subst i1
        by_cases j1 : j = i
        · rw [j1]
          omega
        · by_cases j2 : j = y
          · rw [j2, c'x, c'y] at e
            exact absurd e y3
          · omega
      · by_cases i2 : i = y
        · subst i2
          have := hin i y1 y2
          omega
        · rw [c'o i i1 i2] at e
          by_cases j1 : j = x
          · subst j1
            rw [c'x] at e
            have := h2 i y hi sy e
            have := hs y j (by omega) x1'.2
            omega
          · by_cases j2 : j = y
            · subst j2
              rw [c'y] at e
              have := h2 i s hi ss e
              omega
            · rw [c'o j j1 j2] at e
              exact h2 i j hi hj e
    · rw [sg_swp (f := fun j => if (iv s n).testBit j = true ∧ c j = k then (1 : Int) else 0) x8 (show y < 8 by omega) xy (by
        rw [c'x, sx, sy]) (by
        rw [c'y, sx, sy, x2]) (fun j q1 q2 => by
        rw [c'o j q1 q2])]
      exact h3 k
    · rw [c's, sg_d (f := fun j => if (iv t n).testBit j = true ∧ c j = c s then (1 : Int) else 0) (f' := fun j => if (iv t n).testBit j = true ∧ c' j = c s then (1 : Int) else 0) x8 (fun j hj => by
        by_cases e : j = y
        · subst e
          rw [if_neg (fun z => by have := iv_tb.mp z.1; omega), if_neg (fun z => by have := iv_tb.mp z.1; omega)]
        · rw [c'o j hj e]), hm]
      rw [if_neg (fun z => y3 (by rw [← c'x]; exact z.2)), if_pos ⟨x1, x2⟩]
      omega
end KN
