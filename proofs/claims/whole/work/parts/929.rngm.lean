/-! ===== rings: going round ===== -/
section RM2
variable {F : Nat} {D : mx_D} {E : mx_E} {w : W_}
/-- who comes next; 9 is nobody -/
def tT (n : Nat) (t : Nat → Int32) (x : Nat) : Nat := if x < n then (if t x = -1 then 9 else (t x).toNatClampNeg) else 9
def rT (T : Nat → Nat) (s : Nat) : Nat → Nat
  | 0 => s
  | i + 1 => T (rT T s i)
theorem rT_s (T : Nat → Nat) (s i : Nat) : rT T s (i + 1) = T (rT T s i) := rfl
theorem rT_add (T : Nat → Nat) (s i : Nat) : ∀ j, rT T (rT T s i) j = rT T s (i + j)
  | 0 => rfl
  | j + 1 => by
    rw [rT_s, rT_add T s i j]
    rfl
def rgm (T : Nat → Nat) (s m : Nat) : Prop := 0 < m ∧ rT T s m = s ∧ ∀ i, 0 < i → i < m → rT T s i ≠ s
def lea (T : Nat → Nat) (s m : Nat) : Prop := ∀ i, i < m → s ≤ rT T s i
def RV (T : Nat → Nat) (s v : Nat) : Prop := (2 ≤ v ∧ rgm T s v ∧ lea T s v) ∨ (v = 0 ∧ ∀ m, 2 ≤ m → rgm T s m → lea T s m → False)
theorem rgm_u {T : Nat → Nat} {s m m' : Nat} (h : rgm T s m) (h' : rgm T s m') : m = m' := by
  rcases Nat.lt_trichotomy m m' with q | q | q
  · exact absurd h.2.1 (h'.2.2 m h.1 q)
  · exact q
  · exact absurd h'.2.1 (h.2.2 m' h'.1 q)
theorem RV_u {T : Nat → Nat} {s v v' : Nat} (h : RV T s v) (h' : RV T s v') : v = v' := by
  rcases h with ⟨a, b, c⟩ | ⟨a, b⟩
  · rcases h' with ⟨d, e, f⟩ | ⟨d, e⟩
    · exact rgm_u b e
    · exact absurd (e v a b c) id
  · rcases h' with ⟨d, e, f⟩ | ⟨d, e⟩
    · exact absurd (b v' d e f) id
    · rw [a, d]
/-- round and round -/
theorem rT_mod {T : Nat → Nat} {s m : Nat} (h : rT T s m = s) (i : Nat) : rT T s (i + m) = rT T s i := by
  have := rT_add T s m i
  rw [h, Nat.add_comm] at this
  exact this.symm
/-- those met from s on -/
def msk (T : Nat → Nat) (s : Nat) : Nat → Nat := fo (fun i a => a ||| 2 ^ rT T s i) 0
theorem msk_s (T : Nat → Nat) (s m : Nat) : msk T s (m + 1) = msk T s m ||| 2 ^ rT T s m := rfl
theorem msk_tb (T : Nat → Nat) (s : Nat) : ∀ m x, (msk T s m).testBit x = true ↔ ∃ i, i < m ∧ rT T s i = x
  | 0, x => by
    show (0 : Nat).testBit x = true ↔ _
    rw [Nat.zero_testBit]
    exact ⟨fun z => absurd z (by decide), fun ⟨i, h, _⟩ => absurd h (Nat.not_lt_zero i)⟩
  | m + 1, x => by
    rw [msk_s, Nat.testBit_or, Nat.testBit_two_pow, Bool.or_eq_true, decide_eq_true_eq, msk_tb T s m x]
    constructor
    · rintro (⟨i, h1, h2⟩ | h)
      · exact ⟨i, by omega, h2⟩
      · exact ⟨m, Nat.lt_succ_self m, h⟩
    · rintro ⟨i, h1, h2⟩
      by_cases e : i = m
      · rw [e] at h2
        exact Or.inr h2
      · exact Or.inl ⟨i, by omega, h2⟩
/-- as long as all are unlike there are as many as steps -/
theorem msk_bc {T : Nat → Nat} {s : Nat} : ∀ m, (∀ i, i < m → rT T s i < 8) → (∀ i j, i < j → j < m → rT T s i ≠ rT T s j) → msk T s m < 256 ∧ bc (msk T s m) = m
  | 0, _, _ => ⟨(show (0 : Nat) < 256 by decide), (show bc 0 = 0 by decide)⟩
  | m + 1, h1, h2 => by
    obtain ⟨a, b⟩ := msk_bc m (fun i hi => h1 i (by omega)) (fun i j hi hj => h2 i j hi (by omega))
    have h8 := h1 m (Nat.lt_succ_self m)
    have hb : (msk T s m).testBit (rT T s m) = false := by
      cases z : (msk T s m).testBit (rT T s m)
      · rfl
      · obtain ⟨i, i1, i2⟩ := (msk_tb T s m _).mp z
        exact absurd i2 (h2 i m i1 (Nat.lt_succ_self m))
    obtain ⟨o1, o2⟩ := or_p hb
    have lt : msk T s m ||| 2 ^ rT T s m < 256 := Nat.or_lt_two_pow (n := 8) a (Nat.pow_lt_pow_right (by decide) h8)
    rw [msk_s]
    refine ⟨lt, ?_⟩
    have := bc_nd ⟨msk T s m ||| 2 ^ rT T s m, lt⟩ ⟨rT T s m, h8⟩ o1
    dsimp only at this
    rw [o2, b] at this
    exact this.symm
/-- a ring has none twice -/
theorem rgm_dis {T : Nat → Nat} {s m : Nat} (h : rgm T s m) : ∀ i j, i < j → j < m → rT T s i ≠ rT T s j := fun i j hij hj e => by
  have h1 := rT_add T s i (m - j)
  have h2 := rT_add T s j (m - j)
  rw [e, h2, show j + (m - j) = m by omega, h.2.1] at h1
  exact h.2.2 (i + (m - j)) (by omega) (by omega) h1.symm
theorem rgm_in {T : Nat → Nat} {s m n : Nat} (hT : ∀ x, T x < n ∨ T x = 9) (hn : n ≤ 8) (h9 : T 9 = 9) (hs : s < n) (h : rgm T s m) : ∀ i, i < m → rT T s i < n := by
  have st9 : ∀ i j, rT T s i = 9 → rT T s (i + j) = 9 := fun i j e => by
    induction j with
    | zero => exact e
    | succ j ih =>
      show T (rT T s (i + j)) = 9
      rw [ih, h9]
  intro i hi
  rcases Nat.lt_or_ge (rT T s i) n with q | q
  · exact q
  · exfalso
    have e9 : rT T s i = 9 := by
      cases i with
      | zero =>
        have : s ≥ n := q
        omega
      | succ i =>
        rcases hT (rT T s i) with z | z
        · have : T (rT T s i) ≥ n := q
          omega
        · exact z
    have := st9 i (m - i) e9
    rw [show i + (m - i) = m by omega, h.2.1] at this
    omega
theorem rgm_8 {T : Nat → Nat} {s m n : Nat} (hT : ∀ x, T x < n ∨ T x = 9) (hn : n ≤ 8) (h9 : T 9 = 9) (hs : s < n) (h : rgm T s m) : m ≤ 8 ∧ msk T s m < 256 := by
  obtain ⟨a, b⟩ := msk_bc m (fun i hi => by have := rgm_in hT hn h9 hs h i hi; omega) (rgm_dis h)
  have := bc_8 _ a
  exact ⟨by omega, a⟩
/-- one of a ring has the same ring -/
theorem rgm_mem {T : Nat → Nat} {s m i : Nat} (h : rgm T s m) (hi : i < m) : rgm T (rT T s i) m ∧ ∀ j, ∃ k, k < m ∧ rT T (rT T s i) j = rT T s k := by
  have red : ∀ j, ∃ k, k < m ∧ rT T s j = rT T s k := fun j => by
    induction j with
    | zero => exact ⟨0, h.1, rfl⟩
    | succ j ih =>
      obtain ⟨k, k1, k2⟩ := ih
      by_cases e : k + 1 = m
      · refine ⟨0, h.1, ?_⟩
        rw [rT_s, k2, ← rT_s T s k, e, h.2.1]
        rfl
      · exact ⟨k + 1, by omega, by rw [rT_s, k2, ← rT_s T s k]⟩
  refine ⟨⟨h.1, ?_, fun j j0 jm e => ?_⟩, fun j => ?_⟩
  · rw [rT_add, rT_mod h.2.1]
  · rw [rT_add] at e
    by_cases c : i + j < m
    · exact rgm_dis h i (i + j) (by omega) c e.symm
    · have e2 := rT_mod h.2.1 (i + j - m)
      rw [show i + j - m + m = i + j by omega, e] at e2
      exact rgm_dis h (i + j - m) i (by omega) hi e2.symm
  · rw [rT_add]
    exact red (i + j)
end RM2
