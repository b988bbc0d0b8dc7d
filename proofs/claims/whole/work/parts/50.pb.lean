/-! ===== reckoning with pictures: rows, stores, numbers, loops ===== -/
section PB
theorem rk_in {α : Type} {n j : Nat} {k : Option α} (h : j < n) (hn : n < 2 ^ 31) : rk n (nI j) k = k := by
  unfold rk
  rw [if_neg (nI_in h hn)]
theorem zk_0 {α : Type} {k : Option α} : zk (nI 0) k = k := by
  unfold zk
  rw [if_pos (show nI 0 = 0 ∨ nI 0 = 1 from Or.inl rfl)]
theorem zk_1 {α : Type} {k : Option α} : zk (nI 1) k = k := by
  unfold zk
  rw [if_pos (show nI 1 = 0 ∨ nI 1 = 1 from Or.inr rfl)]
theorem ob_some {α β : Type} (a : α) (f : α → Option β) : Option.bind (some a) f = f a := rfl
theorem sD_eq (D : mx_D) (a j : Nat) (x : Int32) : sD D a j x a j = x := by
  unfold sD va_up upd
  simp
theorem sD_ne (D : mx_D) {a b : Nat} (j i : Nat) (x : Int32) (h : b ≠ a) : sD D a j x b i = D b i := by
  unfold sD va_up
  rw [if_neg h]
theorem sD_nr (D : mx_D) {a b : Nat} (j : Nat) (x : Int32) (h : b ≠ a) : sD D a j x b = D b := by
  unfold sD va_up
  rw [if_neg h]
theorem sD_nj (D : mx_D) (a : Nat) {j i : Nat} (x : Int32) (h : i ≠ j) : sD D a j x a i = D a i := by
  unfold sD va_up upd
  simp [h]
theorem sD_row (D : mx_D) (a j : Nat) (x : Int32) : sD D a j x a = upd (D a) j x := by
  unfold sD va_up
  simp
theorem sE_eq (E : mx_E) (a j : Nat) (x : Int64) : sE E a j x a j = x := by
  unfold sE va_up vp_updL
  simp
theorem sE_ne (E : mx_E) {a b : Nat} (j i : Nat) (x : Int64) (h : b ≠ a) : sE E a j x b i = E b i := by
  unfold sE va_up
  rw [if_neg h]
theorem sE_nr (E : mx_E) {a b : Nat} (j : Nat) (x : Int64) (h : b ≠ a) : sE E a j x b = E b := by
  unfold sE va_up
  rw [if_neg h]
theorem sE_nj (E : mx_E) (a : Nat) {j i : Nat} (x : Int64) (h : i ≠ j) : sE E a j x a i = E a i := by
  unfold sE va_up vp_updL
  simp [h]
theorem cD_nr (D : mx_D) {a b c : Nat} (sp dp n : Nat) (h : c ≠ b) : cD D a b sp dp n c = D c := by
  unfold cD va_up
  rw [if_neg h]
theorem cD_in (D : mx_D) (a b : Nat) {sp dp n j : Nat} (h : dp ≤ j) (h2 : j < dp + n) : cD D a b sp dp n b j = D a (sp + (j - dp)) := by
  unfold cD va_up
  rw [if_pos rfl, pk_cpy_in h h2]
theorem cD_0 (D : mx_D) (a b : Nat) {n j : Nat} (h2 : j < n) : cD D a b 0 0 n b j = D a j := by
  rw [cD_in D a b (Nat.zero_le j) (by omega)]
  simp
/-! loops -/
theorem it_s {α : Type} (b : α → α) (z : α) (n : Nat) : it b z (n + 1) = b (it b z n) := rfl
theorem lu {ρ : Type} (G : Nat → Nat → Option ρ) (n : Nat) (r : Option ρ) (hs : ∀ f a, a < n → G (f + 1) a = r ∨ G (f + 1) a = G f (a + 1)) (he : ∀ f, G (f + 1) n = r) : ∀ k f a, a + k = n → k < f → G f a = r := by
  intro k
  induction k with
  | zero =>
    intro f a h hf
    obtain ⟨f, rfl⟩ : ∃ g, f = g + 1 := ⟨f - 1, by omega⟩
    obtain rfl : a = n := by omega
    exact he f
  | succ k ih =>
    intro f a h hf
    obtain ⟨f, rfl⟩ : ∃ g, f = g + 1 := ⟨f - 1, by omega⟩
    rcases hs f a (by omega) with h1 | h1
    · exact h1
    · rw [h1]
      exact ih f (a + 1) (by omega) (by omega)
/-- a plain loop from 0 up to n -/
theorem lu0 {ρ : Type} (G : Nat → Nat → Option ρ) {F n : Nat} (r : Option ρ) (hF : n < F) (hs : ∀ f a, a < n → G (f + 1) a = G f (a + 1)) (he : ∀ f, G (f + 1) n = r) : G F 0 = r :=
  lu G n r (fun f a h => Or.inr (hs f a h)) he n F 0 (by omega) hF
/-- a loop with a state, its invariant, and an end that may come early -/
theorem lp {σ ρ : Type} (P : Nat → σ → Prop) (Q : ρ → Prop) (G : Nat → Nat → σ → Option ρ) (n : Nat) (hs : ∀ f a s, a < n → P a s → (∃ r, G (f + 1) a s = some r ∧ Q r) ∨ ∃ s', P (a + 1) s' ∧ G (f + 1) a s = G f (a + 1) s') (he : ∀ f s, P n s → ∃ r, G (f + 1) n s = some r ∧ Q r) : ∀ k f a s, a + k = n → k < f → P a s → ∃ r, G f a s = some r ∧ Q r := by
  intro k
  induction k with
  | zero =>
    intro f a s h hf hp
    obtain ⟨f, rfl⟩ : ∃ g, f = g + 1 := ⟨f - 1, by omega⟩
    obtain rfl : a = n := by omega
    exact he f s hp
  | succ k ih =>
    intro f a s h hf hp
    obtain ⟨f, rfl⟩ : ∃ g, f = g + 1 := ⟨f - 1, by omega⟩
    rcases hs f a s (by omega) hp with h1 | ⟨s', h1, h2⟩
    · exact h1
    · rw [h2]
      exact ih f (a + 1) s' (by omega) (by omega) h1
theorem lp0 {σ ρ : Type} (P : Nat → σ → Prop) (Q : ρ → Prop) (G : Nat → Nat → σ → Option ρ) {F n : Nat} {s : σ} (hF : n < F) (h0 : P 0 s) (hs : ∀ f a s, a < n → P a s → ∃ s', P (a + 1) s' ∧ G (f + 1) a s = G f (a + 1) s') (he : ∀ f s, P n s → ∃ r, G (f + 1) n s = some r ∧ Q r) : ∃ r, G F 0 s = some r ∧ Q r :=
  lp P Q G n (fun f a s h hp => Or.inr (hs f a s h hp)) he n F 0 s (by omega) hF h0
/-- what is gathered from 0 up to n -/
def fo {α : Type} (s : Nat → α → α) (z : α) : Nat → α
  | 0 => z
  | n + 1 => s n (fo s z n)
theorem fo_0 {α : Type} (s : Nat → α → α) (z : α) : fo s z 0 = z := rfl
theorem fo_s {α : Type} (s : Nat → α → α) (z : α) (n : Nat) : fo s z (n + 1) = s n (fo s z n) := rfl
theorem fo_c {α : Type} {s s' : Nat → α → α} {z : α} : ∀ (n : Nat), (∀ i a, i < n → s i a = s' i a) → fo s z n = fo s' z n
  | 0, _ => rfl
  | n + 1, h => by
    rw [fo_s, fo_s, fo_c n (fun i a hi => h i a (by omega)), h n _ (by omega)]
/-! Int32 by its number -/
def iI (z : Int) : Int32 := Int32.ofInt z
theorem iI_nI (n : Nat) : nI n = iI n := (Int32.ofInt_eq_ofNat (n := n)).symm
theorem iI_at (x : Int32) : iI x.toInt = x := Int32.ofInt_toInt x
theorem iI_add (a b : Int) : iI a + iI b = iI (a + b) := (Int32.ofInt_add a b).symm
theorem iI_sub (a b : Int) : iI a - iI b = iI (a - b) := (Int32.ofInt_sub a b).symm
theorem iI_mul (a b : Int) : iI a * iI b = iI (a * b) := (Int32.ofInt_mul a b).symm
theorem iI_neg (a : Int) : -iI a = iI (-a) := (Int32.ofInt_neg a).symm
theorem iI_m1 : (-1 : Int32) = iI (-1) := rfl
theorem iI_z : (0 : Int32) = iI 0 := rfl
theorem iI_to {a : Int} (h1 : -2147483648 ≤ a) (h2 : a < 2147483648) : (iI a).toInt = a := Int32.toInt_ofInt_of_le (by omega) (by omega)
theorem iI_le {a b : Int} (h1 : -2147483648 ≤ a) (h2 : a < 2147483648) (h3 : -2147483648 ≤ b) (h4 : b < 2147483648) : iI a ≤ iI b ↔ a ≤ b := by
  rw [Int32.le_iff_toInt_le, iI_to h1 h2, iI_to h3 h4]
theorem iI_lt {a b : Int} (h1 : -2147483648 ≤ a) (h2 : a < 2147483648) (h3 : -2147483648 ≤ b) (h4 : b < 2147483648) : iI a < iI b ↔ a < b := by
  rw [Int32.lt_iff_toInt_lt, iI_to h1 h2, iI_to h3 h4]
theorem iI_eq {a b : Int} (h1 : -2147483648 ≤ a) (h2 : a < 2147483648) (h3 : -2147483648 ≤ b) (h4 : b < 2147483648) : iI a = iI b ↔ a = b := by
  refine ⟨fun h => ?_, fun h => by rw [h]⟩
  have := congrArg Int32.toInt h
  rwa [iI_to h1 h2, iI_to h3 h4] at this
theorem imn_iI {a b : Int} (h1 : -2147483648 ≤ a) (h2 : a < 2147483648) (h3 : -2147483648 ≤ b) (h4 : b < 2147483648) : imn (iI a) (iI b) = iI (min a b) := by
  unfold imn
  by_cases h : b < a
  · rw [if_pos ((iI_lt h3 h4 h1 h2).mpr h), Int.min_eq_right (by omega)]
  · rw [if_neg (fun q => h ((iI_lt h3 h4 h1 h2).mp q)), Int.min_eq_left (by omega)]
theorem imx_iI {a b : Int} (h1 : -2147483648 ≤ a) (h2 : a < 2147483648) (h3 : -2147483648 ≤ b) (h4 : b < 2147483648) : imx (iI a) (iI b) = iI (max a b) := by
  unfold imx
  by_cases h : a < b
  · rw [if_pos ((iI_lt h1 h2 h3 h4).mpr h), Int.max_eq_right (by omega)]
  · rw [if_neg (fun q => h ((iI_lt h1 h2 h3 h4).mp q)), Int.max_eq_left (by omega)]
theorem nI_m1 {n : Nat} (h : n < 2 ^ 31) : ¬ nI n = (-1 : Int32) := by
  intro e
  have := congrArg Int32.toInt e
  rw [nI_toInt h] at this
  have h2 : (-1 : Int32).toInt = -1 := by decide
  rw [h2] at this
  omega
theorem nI_z (n : Nat) (h : n < 2 ^ 31) : nI n = 0 ↔ n = 0 := nI_eq (b := 0) h (by decide)
theorem lt0_nI {n : Nat} (h : n < 2 ^ 31) : nI n < 0 ↔ False := ⟨fun q => nI_pos h q, False.elim⟩
theorem le0_nI {n : Nat} (h : n < 2 ^ 31) : 0 ≤ nI n ↔ True := ⟨fun _ => trivial, fun _ => nI_pos' h⟩
/-- a number is a place of a row of n, or none -/
def vx (x : Int32) (n : Nat) : Bool := decide (0 ≤ x.toInt) && decide (x.toInt < n)
theorem vx_nI {j n : Nat} (hj : j < 2 ^ 31) : vx (nI j) n = decide (j < n) := by
  unfold vx
  rw [nI_toInt hj]
  by_cases h : j < n
  · simp [h]
  · simp [h]
theorem vx_of {x : Int32} {n : Nat} (hn : n < 2 ^ 31) (h : vx x n = true) : ∃ j, j < n ∧ x = nI j := by
  unfold vx at h
  simp only [Bool.and_eq_true, decide_eq_true_eq] at h
  obtain ⟨j, hj, rfl⟩ := nI_of (x := x) (by rw [Int32.lt_iff_toInt_lt]; have : (0 : Int32).toInt = 0 := by decide
                                            omega)
  rw [nI_toInt hj] at h
  exact ⟨j, by omega, rfl⟩
theorem vx_no {x : Int32} {n : Nat} (h : vx x n = false) : ¬ (0 ≤ x.toInt ∧ x.toInt < n) := by
  unfold vx at h
  simp only [Bool.and_eq_false_iff, decide_eq_false_iff_not] at h
  omega
theorem vx_c (x : Int32) (n : Nat) (hn : n < 2 ^ 31) : vx x n = false ∨ ∃ j, j < n ∧ x = nI j := by
  cases h : vx x n
  · exact Or.inl rfl
  · exact Or.inr (vx_of hn h)
/-! bits -/
theorem nb_and (a b : Nat) : nI a &&& nI b = nI (a &&& b) := by
  apply Int32.toBitVec_inj.1
  show BitVec.ofNat 32 a &&& BitVec.ofNat 32 b = BitVec.ofNat 32 (a &&& b)
  apply BitVec.eq_of_getLsbD_eq
  intro i hi
  simp [hi]
theorem nb_or (a b : Nat) : nI a ||| nI b = nI (a ||| b) := by
  apply Int32.toBitVec_inj.1
  show BitVec.ofNat 32 a ||| BitVec.ofNat 32 b = BitVec.ofNat 32 (a ||| b)
  apply BitVec.eq_of_getLsbD_eq
  intro i hi
  simp [hi]
theorem nb_xor (a b : Nat) : nI a ^^^ nI b = nI (a ^^^ b) := by
  apply Int32.toBitVec_inj.1
  show BitVec.ofNat 32 a ^^^ BitVec.ofNat 32 b = BitVec.ofNat 32 (a ^^^ b)
  apply BitVec.eq_of_getLsbD_eq
  intro i hi
  simp [hi]
theorem nb_sl : ∀ n, n < 32 → ((nI n &&& 31).toBitVec.smod 32).toNat = n := by decide +kernel
theorem nb_shl : ∀ n, n < 32 → nI 1 <<< (nI n &&& 31) = nI (2 ^ n) := by decide +kernel
theorem nb_shr {m n : Nat} (hm : m < 2 ^ 31) (hn : n < 32) : nI m >>> (nI n &&& 31) = nI (m / 2 ^ n) := pk_shrN hm _ n (nb_sl n hn)
theorem nb_1 (m : Nat) : nI m &&& nI 1 = nI (m % 2) := by rw [nb_and, Nat.and_one_is_mod]
theorem nb_bit {m n : Nat} (hm : m < 2 ^ 31) (hn : n < 32) : (nI m >>> (nI n &&& 31)) &&& nI 1 = nI (if m.testBit n then 1 else 0) := by
  rw [nb_shr hm hn, nb_1, Nat.testBit_eq_decide_div_mod_eq]
  by_cases h : m / 2 ^ n % 2 = 1
  · simp [h]
  · have : m / 2 ^ n % 2 = 0 := by omega
    simp [this]
/-- a set without another's -/
def nand (a b : Nat) : Nat := a ^^^ (a &&& b)
theorem nand_tb (a b i : Nat) : (nand a b).testBit i = (a.testBit i && !b.testBit i) := by
  unfold nand
  rw [Nat.testBit_xor, Nat.testBit_and]
  cases a.testBit i <;> cases b.testBit i <;> rfl
theorem nb_not (a b : Nat) : nI a &&& (nI b ^^^ (-1 : Int32)) = nI (nand a b) := by
  unfold nand
  rw [← nb_xor, ← nb_and]
  apply Int32.toBitVec_inj.1
  rw [Int32.toBitVec_and, Int32.toBitVec_xor, Int32.toBitVec_xor, Int32.toBitVec_and]
  have h1 : (-1 : Int32).toBitVec = BitVec.allOnes 32 := by decide
  rw [h1]
  apply BitVec.eq_of_getLsbD_eq
  intro i hi
  rw [BitVec.getLsbD_and, BitVec.getLsbD_xor, BitVec.getLsbD_xor, BitVec.getLsbD_and, BitVec.getLsbD_allOnes]
  simp only [hi, decide_true]
  cases (nI a).toBitVec.getLsbD i <;> cases (nI b).toBitVec.getLsbD i <;> rfl
/-- the set of those below n with p -/
def mk (p : Nat → Bool) (n : Nat) : Nat := fo (fun x m => m ||| (if p x then 2 ^ x else 0)) 0 n
theorem mk_s (p : Nat → Bool) (n : Nat) : mk p (n + 1) = mk p n ||| (if p n then 2 ^ n else 0) := rfl
theorem mk_tb (p : Nat → Bool) : ∀ n i, (mk p n).testBit i = (decide (i < n) && p i)
  | 0, i => by simp [mk, fo]
  | n + 1, i => by
    rw [mk_s, Nat.testBit_or, mk_tb p n i]
    by_cases h : i = n
    · subst h
      cases hp : p i <;> simp
    · have e : (if p n then 2 ^ n else 0).testBit i = false := by
        split
        · rw [Nat.testBit_two_pow]
          simp
          omega
        · simp
      rw [e]
      by_cases h2 : i < n
      · simp [h2, show i < n + 1 by omega]
      · simp [h2, show ¬ i < n + 1 by omega]
theorem mk_lt (p : Nat → Bool) (n : Nat) : mk p n < 2 ^ n := by
  apply Nat.lt_pow_two_of_testBit
  intro i hi
  rw [mk_tb]
  simp
  omega
theorem mk_8 (p : Nat → Bool) {n : Nat} (h : n ≤ 8) : mk p n < 256 := Nat.lt_of_lt_of_le (mk_lt p n) (Nat.pow_le_pow_right (by decide) h)
theorem mk_c {p q : Nat → Bool} (n : Nat) (h : ∀ i, i < n → p i = q i) : mk p n = mk q n := fo_c n (fun i a hi => by rw [h i hi])
/-- how many are in a set -/
def bc (m : Nat) : Nat := fo (fun x s => s + (if m.testBit x then 1 else 0)) 0 8
/-- the first of k from a on with p -/
def ff (p : Nat → Bool) : Nat → Nat → Int32
  | 0, _ => -1
  | k + 1, a => if p a = true then nI a else ff p k (a + 1)
theorem ff_sp (p : Nat → Bool) : ∀ k a, (ff p k a = -1 ∧ ∀ i, a ≤ i → i < a + k → p i = false) ∨ ∃ j, a ≤ j ∧ j < a + k ∧ p j = true ∧ (∀ i, a ≤ i → i < j → p i = false) ∧ ff p k a = nI j
  | 0, a => Or.inl ⟨rfl, fun i h1 h2 => by omega⟩
  | k + 1, a => by
    have e : ff p (k + 1) a = if p a = true then nI a else ff p k (a + 1) := rfl
    cases hp : p a
    · rw [e, hp, if_neg (by decide)]
      rcases ff_sp p k (a + 1) with ⟨h1, h2⟩ | ⟨j, h1, h2, h3, h4, h5⟩
      · refine Or.inl ⟨h1, fun i q1 q2 => ?_⟩
        rcases Nat.lt_or_ge a i with h | h
        · exact h2 i h (by omega)
        · obtain rfl : i = a := by omega
          exact hp
      · refine Or.inr ⟨j, by omega, by omega, h3, fun i q1 q2 => ?_, h5⟩
        rcases Nat.lt_or_ge a i with h | h
        · exact h4 i h q2
        · obtain rfl : i = a := by omega
          exact hp
    · rw [e, hp, if_pos rfl]
      exact Or.inr ⟨a, by omega, by omega, hp, fun i q1 q2 => by omega, rfl⟩
theorem ff_c {p q : Nat → Bool} : ∀ k a, (∀ i, a ≤ i → i < a + k → p i = q i) → ff p k a = ff q k a
  | 0, _, _ => rfl
  | k + 1, a, h => by
    show (if p a = true then nI a else ff p k (a + 1)) = if q a = true then nI a else ff q k (a + 1)
    rw [h a (by omega) (by omega), ff_c k (a + 1) (fun i h1 h2 => h i (by omega) (by omega))]
theorem lff (p : Nat → Bool) (G : Nat → Nat → Option Int32) (n : Nat) (hs : ∀ f a, a < n → G (f + 1) a = if p a = true then some (nI a) else G f (a + 1)) (he : ∀ f, G (f + 1) n = some (-1)) : ∀ k f a, a + k = n → k < f → G f a = some (ff p k a) := by
  intro k
  induction k with
  | zero =>
    intro f a h hf
    obtain ⟨f, rfl⟩ : ∃ g, f = g + 1 := ⟨f - 1, by omega⟩
    obtain rfl : a = n := by omega
    exact he f
  | succ k ih =>
    intro f a h hf
    obtain ⟨f, rfl⟩ : ∃ g, f = g + 1 := ⟨f - 1, by omega⟩
    rw [hs f a (by omega)]
    show _ = some (if p a = true then nI a else ff p k (a + 1))
    split
    · rfl
    · exact ih f (a + 1) (by omega) (by omega)
theorem lff0 (p : Nat → Bool) (G : Nat → Nat → Option Int32) {F n : Nat} (hF : n < F) (hs : ∀ f a, a < n → G (f + 1) a = if p a = true then some (nI a) else G f (a + 1)) (he : ∀ f, G (f + 1) n = some (-1)) : G F 0 = some (ff p n 0) :=
  lff p G n hs he n F 0 (by omega) hF
end PB
