/-! ===== the world: the numbers of a church, as the reference keeps them ===== -/
section WO
abbrev W_ : Type := Nat → Int32
def nP (w : W_) : Nat := (w 0).toNatClampNeg
def nL (w : W_) : Nat := (w 1).toNatClampNeg
def nV (w : W_) : Nat := (w 2).toNatClampNeg
def nA (w : W_) : Nat := (w 4).toNatClampNeg
def nH (w : W_) : Nat := (w 5).toNatClampNeg
def nB (w : W_) : Nat := (w 6).toNatClampNeg
def nN (w : W_) : Nat := (w 7).toNatClampNeg
def ba (w : W_) : Bool := decide (w 3 = nI 1)
def ti (w : W_) (i : Nat) : Int := (w i).toInt
/-- where one sits, what he wears -/
def pw (w : W_) (x : Nat) : Nat := (w (40 + 6 * x + 3)).toNatClampNeg
def pc (w : W_) (x : Nat) : Nat := (w (40 + 6 * x + 4)).toNatClampNeg
def ht (w : W_) (x : Nat) : Nat := (w (40 + 6 * x + 5)).toNatClampNeg
def st (w : W_) (x : Nat) : Bool := decide (¬ w (40 + 6 * x + 3) = -1)
def wh (w : W_) (x : Nat) : Bool := decide (¬ w (40 + 6 * x + 5) = -1)
/-- the bounds of a church -/
def WF (w : W_) : Prop :=
  (w 0 = nI (nP w) ∧ nP w ≤ 4) ∧ (w 1 = nI (nL w) ∧ nL w ≤ 5) ∧ (w 2 = nI (nV w) ∧ nV w ≤ 30) ∧ (w 3 = nI 0 ∨ w 3 = nI 1) ∧ (w 4 = nI (nA w) ∧ nA w ≤ 8) ∧ (w 5 = nI (nH w) ∧ nH w ≤ 8) ∧ (w 6 = nI (nB w) ∧ nB w ≤ 5) ∧ (w 7 = nI (nN w) ∧ nN w ≤ 1400) ∧ ((0 < nP w ↔ 0 < nN w) ∧ (0 < nP w ↔ 0 < nL w) ∧ (0 < nA w → 0 < nP w) ∧ (0 < nH w → 0 < nP w) ∧ (0 < nB w → 0 < nP w)) ∧
  (∀ j, j < 4 → -40 ≤ ti w (8 + 3 * j) ∧ ti w (8 + 3 * j) ≤ 40 ∧ 0 ≤ ti w (8 + 3 * j + 2) ∧ ti w (8 + 3 * j + 2) ≤ ti w (8 + 3 * j + 1) ∧ ti w (8 + 3 * j + 1) ≤ 9) ∧
  (∀ j, j < 20 → 0 ≤ ti w (20 + j) ∧ ti w (20 + j) ≤ 60) ∧
  (∀ x, x < nA w → 100 ≤ ti w (40 + 6 * x) ∧ ti w (40 + 6 * x) ≤ 220 ∧ 0 ≤ ti w (40 + 6 * x + 1) ∧ ti w (40 + 6 * x + 1) ≤ 9 ∧ 0 ≤ ti w (40 + 6 * x + 2) ∧ ti w (40 + 6 * x + 2) ≤ 9) ∧
  (∀ x, x < nA w → (w (40 + 6 * x + 3) = -1 ∧ w (40 + 6 * x + 4) = -1) ∨ (w (40 + 6 * x + 3) = nI (pw w x) ∧ pw w x < nP w ∧ w (40 + 6 * x + 4) = nI (pc w x) ∧ pc w x < nL w)) ∧
  (∀ x, x < nA w → w (40 + 6 * x + 5) = -1 ∨ (w (40 + 6 * x + 5) = nI (ht w x) ∧ ht w x < nH w)) ∧
  (∀ x, x < nH w → 0 ≤ ti w (88 + x) ∧ ti w (88 + x) ≤ 30) ∧
  (∀ b, b < nB w → 1 ≤ ti w (96 + 2 * b) ∧ ti w (96 + 2 * b) ≤ 30) ∧
  (∀ b, b < nB w → w (96 + 2 * b + 1) = -1 ∨ ∃ a, a < nA w ∧ w (96 + 2 * b + 1) = nI a)
theorem wf_P {w : W_} (h : WF w) : w 0 = nI (nP w) := h.1.1
theorem wf_P4 {w : W_} (h : WF w) : nP w ≤ 4 := h.1.2
theorem wf_L {w : W_} (h : WF w) : w 1 = nI (nL w) := h.2.1.1
theorem wf_L5 {w : W_} (h : WF w) : nL w ≤ 5 := h.2.1.2
theorem wf_V {w : W_} (h : WF w) : w 2 = nI (nV w) := h.2.2.1.1
theorem wf_V30 {w : W_} (h : WF w) : nV w ≤ 30 := h.2.2.1.2
theorem wf_3 {w : W_} (h : WF w) : w 3 = nI 0 ∨ w 3 = nI 1 := h.2.2.2.1
theorem wf_A {w : W_} (h : WF w) : w 4 = nI (nA w) := h.2.2.2.2.1.1
theorem wf_A8 {w : W_} (h : WF w) : nA w ≤ 8 := h.2.2.2.2.1.2
theorem wf_H {w : W_} (h : WF w) : w 5 = nI (nH w) := h.2.2.2.2.2.1.1
theorem wf_H8 {w : W_} (h : WF w) : nH w ≤ 8 := h.2.2.2.2.2.1.2
theorem wf_B {w : W_} (h : WF w) : w 6 = nI (nB w) := h.2.2.2.2.2.2.1.1
theorem wf_B5 {w : W_} (h : WF w) : nB w ≤ 5 := h.2.2.2.2.2.2.1.2
theorem wf_N {w : W_} (h : WF w) : w 7 = nI (nN w) := h.2.2.2.2.2.2.2.1.1
theorem wf_NP {w : W_} (h : WF w) : 0 < nP w ↔ 0 < nN w := h.2.2.2.2.2.2.2.2.1.1
theorem wf_PL {w : W_} (h : WF w) : 0 < nP w ↔ 0 < nL w := h.2.2.2.2.2.2.2.2.1.2.1
theorem wf_AP {w : W_} (h : WF w) : 0 < nA w → 0 < nP w := h.2.2.2.2.2.2.2.2.1.2.2.1
theorem wf_N14 {w : W_} (h : WF w) : nN w ≤ 1400 := h.2.2.2.2.2.2.2.1.2
theorem wf_up {w : W_} (h : WF w) {j : Nat} (hj : j < 4) : -40 ≤ ti w (8 + 3 * j) ∧ ti w (8 + 3 * j) ≤ 40 ∧ 0 ≤ ti w (8 + 3 * j + 2) ∧ ti w (8 + 3 * j + 2) ≤ ti w (8 + 3 * j + 1) ∧ ti w (8 + 3 * j + 1) ≤ 9 := h.2.2.2.2.2.2.2.2.2.1 j hj
theorem wf_tr {w : W_} (h : WF w) {j : Nat} (hj : j < 20) : 0 ≤ ti w (20 + j) ∧ ti w (20 + j) ≤ 60 := h.2.2.2.2.2.2.2.2.2.2.1 j hj
theorem wf_bd {w : W_} (h : WF w) {x : Nat} (hx : x < nA w) : 100 ≤ ti w (40 + 6 * x) ∧ ti w (40 + 6 * x) ≤ 220 ∧ 0 ≤ ti w (40 + 6 * x + 1) ∧ ti w (40 + 6 * x + 1) ≤ 9 ∧ 0 ≤ ti w (40 + 6 * x + 2) ∧ ti w (40 + 6 * x + 2) ≤ 9 := h.2.2.2.2.2.2.2.2.2.2.2.1 x hx
theorem wf_st {w : W_} (h : WF w) {x : Nat} (hx : x < nA w) : (w (40 + 6 * x + 3) = -1 ∧ w (40 + 6 * x + 4) = -1) ∨ (w (40 + 6 * x + 3) = nI (pw w x) ∧ pw w x < nP w ∧ w (40 + 6 * x + 4) = nI (pc w x) ∧ pc w x < nL w) := h.2.2.2.2.2.2.2.2.2.2.2.2.1 x hx
theorem wf_ht {w : W_} (h : WF w) {x : Nat} (hx : x < nA w) : w (40 + 6 * x + 5) = -1 ∨ (w (40 + 6 * x + 5) = nI (ht w x) ∧ ht w x < nH w) := h.2.2.2.2.2.2.2.2.2.2.2.2.2.1 x hx
theorem wf_hh {w : W_} (h : WF w) {x : Nat} (hx : x < nH w) : 0 ≤ ti w (88 + x) ∧ ti w (88 + x) ≤ 30 := h.2.2.2.2.2.2.2.2.2.2.2.2.2.2.1 x hx
theorem wf_bh {w : W_} (h : WF w) {b : Nat} (hb : b < nB w) : 1 ≤ ti w (96 + 2 * b) ∧ ti w (96 + 2 * b) ≤ 30 := h.2.2.2.2.2.2.2.2.2.2.2.2.2.2.2.1 b hb
theorem wf_so {w : W_} (h : WF w) {b : Nat} (hb : b < nB w) : w (96 + 2 * b + 1) = -1 ∨ ∃ a, a < nA w ∧ w (96 + 2 * b + 1) = nI a := h.2.2.2.2.2.2.2.2.2.2.2.2.2.2.2.2 b hb
theorem ti_at (w : W_) (i : Nat) : w i = iI (ti w i) := (iI_at _).symm
theorem wf_sit {w : W_} (h : WF w) {x : Nat} (hx : x < nA w) (hs : st w x = true) : w (40 + 6 * x + 3) = nI (pw w x) ∧ pw w x < nP w ∧ w (40 + 6 * x + 4) = nI (pc w x) ∧ pc w x < nL w := by
  rcases wf_st h hx with h1 | h1
  · simp [st, h1.1] at hs
  · exact h1
theorem wf_nsit {w : W_} (h : WF w) {x : Nat} (hx : x < nA w) (hs : st w x = false) : w (40 + 6 * x + 3) = -1 ∧ w (40 + 6 * x + 4) = -1 := by
  rcases wf_st h hx with h1 | h1
  · exact h1
  · simp only [st, decide_eq_false_iff_not, Decidable.not_not] at hs
    have := wf_P4 h
    rw [hs] at h1
    exact absurd h1.1.symm (nI_m1 (by omega))
theorem wf_hat {w : W_} (h : WF w) {x : Nat} (hx : x < nA w) (hs : wh w x = true) : w (40 + 6 * x + 5) = nI (ht w x) ∧ ht w x < nH w := by
  rcases wf_ht h hx with h1 | h1
  · simp [wh, h1] at hs
  · exact h1
theorem st_f {w : W_} {x : Nat} (h : w (40 + 6 * x + 3) = -1) : st w x = false := by simp [st, h]
theorem st_t {w : W_} {x p : Nat} (h : w (40 + 6 * x + 3) = nI p) (hp : p < 2 ^ 31) : st w x = true := by
  simp only [st, decide_eq_true_eq, h]
  exact nI_m1 hp
/-! truths -/
def b01 (c : Bool) : Int32 := if c = true then nI 1 else nI 0
theorem b01_z (c : Bool) : b01 c = 0 ↔ c = false := by cases c <;> decide
theorem b01_i {c : Bool} {p : Prop} {dp : Decidable p} (h : p ↔ c = true) : @ite Int32 p dp (nI 1) (nI 0) = b01 c := by
  unfold b01
  by_cases hp : p
  · rw [if_pos hp, if_pos (h.mp hp)]
  · rw [if_neg hp, if_neg (fun q => hp (h.mpr q))]
theorem zk_b {α : Type} (c : Bool) (k : Option α) : zk (b01 c) k = k := by
  cases c
  · exact zk_0
  · exact zk_1
/-! heights -/
def bks (w : W_) (a : Int32) : Int := fo (fun b s => s + (if w (96 + 2 * b + 1) = a then ti w (96 + 2 * b) else 0)) 0 (nB w)
def hat (w : W_) (x : Nat) : Int := if w (40 + 6 * x + 5) = -1 then 0 else ti w (88 + ht w x)
def bod (w : W_) (y x : Nat) : Int := ti w (40 + 6 * x) + y * ti w (40 + 6 * x + 1) + ti w (40 + 6 * x + 2) + hat w x + bks w (nI x)
def flo (w : W_) (p i : Nat) : Int := ti w (8 + 3 * p) - ti w (8 + 3 * p + 2) - ti w (20 + 5 * p + i)
def hi (w : W_) (y x : Nat) : Int := bod w y x + (if st w x = true then flo w (pw w x) (pc w x) else 0)
theorem bks_b {w : W_} (h : WF w) (a : Int32) : 0 ≤ bks w a ∧ bks w a ≤ 150 := by
  have : ∀ n, n ≤ nB w → 0 ≤ fo (fun b s => s + (if w (96 + 2 * b + 1) = a then ti w (96 + 2 * b) else 0)) (0 : Int) n ∧ fo (fun b s => s + (if w (96 + 2 * b + 1) = a then ti w (96 + 2 * b) else 0)) (0 : Int) n ≤ 30 * n := by
    intro n
    induction n with
    | zero => intro _; simp [fo]
    | succ n ih =>
      intro hn
      have h1 := ih (by omega)
      have h2 := wf_bh h (b := n) (by omega)
      rw [fo_s]
      split <;> omega
  have h1 := this (nB w) (Nat.le_refl _)
  have h2 := wf_B5 h
  unfold bks
  omega
theorem hat_b {w : W_} (h : WF w) {x : Nat} (hx : x < nA w) : 0 ≤ hat w x ∧ hat w x ≤ 30 := by
  unfold hat
  split
  · omega
  · rename_i h1
    rcases wf_ht h hx with h2 | h2
    · exact absurd h2 h1
    · exact wf_hh h h2.2
theorem bod_b {w : W_} (h : WF w) {x : Nat} (hx : x < nA w) {y : Nat} (hy : y ≤ 30) : 100 ≤ bod w y x ∧ bod w y x ≤ 700 := by
  have h1 := bks_b h (nI x)
  have h2 := hat_b h hx
  have h3 := wf_bd h hx
  have h4 : 0 ≤ (y : Int) * ti w (40 + 6 * x + 1) := Int.mul_nonneg (by omega) h3.2.2.1
  have h5 : (y : Int) * ti w (40 + 6 * x + 1) ≤ 30 * 9 := Int.mul_le_mul (by omega) h3.2.2.2.1 h3.2.2.1 (by omega)
  unfold bod
  omega
theorem flo_b {w : W_} (h : WF w) {p i : Nat} (hp : p < 4) (hi : i < 5) : -120 ≤ flo w p i ∧ flo w p i ≤ 40 := by
  have h1 := wf_up h hp
  have h2 := wf_tr h (j := 5 * p + i) (by omega)
  unfold flo
  rw [show 20 + 5 * p + i = 20 + (5 * p + i) by omega]
  omega
theorem hi_b {w : W_} (h : WF w) {x : Nat} (hx : x < nA w) {y : Nat} (hy : y ≤ 30) : -100 ≤ hi w y x ∧ hi w y x ≤ 800 := by
  have h1 := bod_b h hx hy
  unfold hi
  split
  · rename_i hs
    have h2 := wf_sit h hx hs
    have h3 := wf_P4 h
    have h4 := wf_L5 h
    have := flo_b h (p := pw w x) (i := pc w x) (by omega) (by omega)
    omega
  · omega
/-! sets, how far apart -/
def sM (w : W_) : Nat := mk (fun x => st w x) (nA w)
def pM (w : W_) (p : Nat) : Nat := mk (fun x => decide (w (40 + 6 * x + 3) = nI p)) (nA w)
/-- how far apart those of a set are -/
def lo (hs : Nat → Int) (m n : Nat) (B : Int) : Int := fo (fun x s => if m.testBit x then min s (hs x) else s) B n
def tp (hs : Nat → Int) (m n : Nat) (B : Int) : Int := fo (fun x s => if m.testBit x then max s (hs x) else s) B n
theorem lo_le (hs : Nat → Int) (m : Nat) (B : Int) : ∀ n, lo hs m n B ≤ B ∧ (∀ x, x < n → m.testBit x = true → lo hs m n B ≤ hs x) ∧ (lo hs m n B = B ∨ ∃ x, x < n ∧ m.testBit x = true ∧ lo hs m n B = hs x)
  | 0 => ⟨by simp [lo, fo], fun x hx => by omega, Or.inl rfl⟩
  | n + 1 => by
    obtain ⟨h1, h2, h3⟩ := lo_le hs m B n
    have e : lo hs m (n + 1) B = if m.testBit n then min (lo hs m n B) (hs n) else lo hs m n B := rfl
    rw [e]
    by_cases hn : m.testBit n = true
    · rw [if_pos hn]
      refine ⟨by omega, fun x hx hb => ?_, ?_⟩
      · rcases Nat.lt_or_ge x n with h | h
        · have := h2 x h hb
          omega
        · obtain rfl : x = n := by omega
          omega
      · rcases Int.le_total (lo hs m n B) (hs n) with h | h
        · rw [Int.min_eq_left h]
          rcases h3 with h3 | ⟨x, hx, hb, h3⟩
          · exact Or.inl h3
          · exact Or.inr ⟨x, by omega, hb, h3⟩
        · rw [Int.min_eq_right h]
          exact Or.inr ⟨n, by omega, hn, rfl⟩
    · rw [if_neg hn]
      refine ⟨h1, fun x hx hb => ?_, ?_⟩
      · rcases Nat.lt_or_ge x n with h | h
        · exact h2 x h hb
        · obtain rfl : x = n := by omega
          exact absurd hb hn
      · rcases h3 with h3 | ⟨x, hx, hb, h3⟩
        · exact Or.inl h3
        · exact Or.inr ⟨x, by omega, hb, h3⟩
theorem tp_ge (hs : Nat → Int) (m : Nat) (B : Int) : ∀ n, B ≤ tp hs m n B ∧ (∀ x, x < n → m.testBit x = true → hs x ≤ tp hs m n B) ∧ (tp hs m n B = B ∨ ∃ x, x < n ∧ m.testBit x = true ∧ tp hs m n B = hs x)
  | 0 => ⟨by simp [tp, fo], fun x hx => by omega, Or.inl rfl⟩
  | n + 1 => by
    obtain ⟨h1, h2, h3⟩ := tp_ge hs m B n
    have e : tp hs m (n + 1) B = if m.testBit n then max (tp hs m n B) (hs n) else tp hs m n B := rfl
    rw [e]
    by_cases hn : m.testBit n = true
    · rw [if_pos hn]
      refine ⟨by omega, fun x hx hb => ?_, ?_⟩
      · rcases Nat.lt_or_ge x n with h | h
        · have := h2 x h hb
          omega
        · obtain rfl : x = n := by omega
          omega
      · rcases Int.le_total (tp hs m n B) (hs n) with h | h
        · rw [Int.max_eq_right h]
          exact Or.inr ⟨n, by omega, hn, rfl⟩
        · rw [Int.max_eq_left h]
          rcases h3 with h3 | ⟨x, hx, hb, h3⟩
          · exact Or.inl h3
          · exact Or.inr ⟨x, by omega, hb, h3⟩
    · rw [if_neg hn]
      refine ⟨h1, fun x hx hb => ?_, ?_⟩
      · rcases Nat.lt_or_ge x n with h | h
        · exact h2 x h hb
        · obtain rfl : x = n := by omega
          exact absurd hb hn
      · rcases h3 with h3 | ⟨x, hx, hb, h3⟩
        · exact Or.inl h3
        · exact Or.inr ⟨x, by omega, hb, h3⟩
/-- SPREAD of a set m (of numbers below 8) -/
def spr (hs : Nat → Int) (m : Nat) : Int := if m = 0 then 0 else tp hs m 8 (-10000) - lo hs m 8 10000
/-- what spr is: the least L from 0 on by which no two of the set are further apart -/
theorem spr_le {hs : Nat → Int} {m : Nat} (hm : m < 256) (hb : ∀ x, x < 8 → m.testBit x = true → -10000 < hs x ∧ hs x < 10000) {L : Int} (hL : 0 ≤ L) : spr hs m ≤ L ↔ ∀ x y, x < 8 → y < 8 → m.testBit x = true → m.testBit y = true → hs x - hs y ≤ L := by
  unfold spr
  split
  · rename_i h0
    subst h0
    simp [hL]
  · rename_i h0
    obtain ⟨l1, l2, l3⟩ := lo_le hs m 10000 8
    obtain ⟨t1, t2, t3⟩ := tp_ge hs m (-10000) 8
    have hne : ∃ x, x < 8 ∧ m.testBit x = true := by
      obtain ⟨i, hi⟩ := Nat.exists_testBit_of_ne_zero h0
      refine ⟨i, ?_, hi⟩
      rcases Nat.lt_or_ge i 8 with h | h
      · exact h
      · have := Nat.testBit_lt_two_pow (x := m) (i := i) (Nat.lt_of_lt_of_le hm (Nat.pow_le_pow_right (n := 2) (by decide) h))
        rw [this] at hi
        cases hi
    obtain ⟨z, hz, hzb⟩ := hne
    have q1 := hb z hz hzb
    have q2 := l2 z hz hzb
    have q3 := t2 z hz hzb
    constructor
    · intro h x y hx hy bx yb
      have := t2 x hx bx
      have := l2 y hy yb
      omega
    · intro h
      rcases t3 with t3 | ⟨x, hx, bx, t3⟩
      · omega
      · rcases l3 with l3 | ⟨y, hy, yb, l3⟩
        · omega
        · rw [t3, l3]
          exact h x y hx hy bx yb
theorem spr_0 {hs : Nat → Int} {m : Nat} (hm : m < 256) (hb : ∀ x, x < 8 → m.testBit x = true → -10000 < hs x ∧ hs x < 10000) : 0 ≤ spr hs m := by
  unfold spr
  split
  · omega
  · rename_i h0
    obtain ⟨l1, l2, l3⟩ := lo_le hs m 10000 8
    obtain ⟨t1, t2, t3⟩ := tp_ge hs m (-10000) 8
    obtain ⟨i, hi⟩ := Nat.exists_testBit_of_ne_zero h0
    have h8 : i < 8 := by
      rcases Nat.lt_or_ge i 8 with h | h
      · exact h
      · have := Nat.testBit_lt_two_pow (x := m) (i := i) (Nat.lt_of_lt_of_le hm (Nat.pow_le_pow_right (n := 2) (by decide) h))
        rw [this] at hi
        cases hi
    have := l2 i h8 hi
    have := t2 i h8 hi
    omega
/-- how far from level: of all, or of the worst row -/
def apa (hs : Nat → Int) (pm : Nat → Nat) (b : Bool) (m : Nat) : Int := if b = true then spr hs m else fo (fun p s => max s (spr hs (m &&& pm p))) 0 4
end WO
