/-! ===== the words of the language; told: a word and a number ===== -/
section WS
variable {D D' : mx_D} {F : Nat}
def wl (w : Nat) : Nat := ((st_len w).getD 0).toNatClampNeg
def wc (w i : Nat) : Int32 := (st_at w (nI i)).getD 0
set_option maxRecDepth 100000 in
theorem wd_all : ∀ k : Fin 21, wl (1000 + k.val) ≤ 20 ∧ st_len (1000 + k.val) = some (nI (wl (1000 + k.val))) ∧ ∀ i : Fin 20, i.val < wl (1000 + k.val) → st_at (1000 + k.val) (nI i.val) = some (wc (1000 + k.val) i.val) := by
  decide +kernel
theorem wd {w : Nat} (h1 : 1000 ≤ w) (h2 : w ≤ 1020) : WD w (wl w) (wc w) := by
  obtain ⟨k, rfl⟩ : ∃ k, w = 1000 + k := ⟨w - 1000, by omega⟩
  obtain ⟨a, b, c⟩ := wd_all ⟨k, by omega⟩
  exact ⟨a, b, fun i hi => c ⟨i, Nat.lt_of_lt_of_le hi a⟩ hi⟩
theorem word_ST (hF : 2000 ≤ F) {t : Nat} (h : ST D D' t) {w : Nat} (h1 : 1000 ≤ w) (h2 : w ≤ 1020) : ∃ D1 D1', g_Reader_takeWord F w D = some D1 ∧ g_M_needs F w D' = some D1' ∧ ST D1 D1' t ∧ XF D D1 ∧ MF D' D1' :=
  takeWord_ST (wd h1 h2) hF h
theorem isW_ST (hF : 2000 ≤ F) {t : Nat} (h : ST D D' t) {w : Nat} (h1 : 1000 ≤ w) (h2 : w ≤ 1020) : ∃ b b', g_Reader_isWord F D w = some (b01 b) ∧ g_M_is F D' w = some (b01 b') ∧ (D' 116 12 = 0 → b = b') ∧ (¬ D' 116 12 = 0 → b' = false) := by
  by_cases g : D' 116 12 = 0
  · obtain ⟨b, e1, e2⟩ := is_RT (F := F) (wd h1 h2) (by omega) (h.2.2.2 g) g
    exact ⟨b, b, e1, e2, fun _ => rfl, fun e => absurd g e⟩
  · obtain ⟨b, e1⟩ := is_X (F := F) (wd h1 h2) (by omega) h.2.2.1
    exact ⟨b, false, e1, is_bad (wd h1 h2) (by omega) g, fun e => absurd e g, fun _ => rfl⟩
/-- a number refused by what it names: the class afterwards, at its place -/
theorem refuseIf_X (D : mx_D) (b : Bool) : (∀ c, c ≠ 3 → g_Reader_refuseNumberIf (b01 b) D c = D c) ∧ (∀ j, j ≠ 1 → j ≠ 2 → g_Reader_refuseNumberIf (b01 b) D 3 j = D 3 j) ∧ g_Reader_refuseNumberIf (b01 b) D 3 1 = (if b = true ∧ D 3 1 = 0 then nI 2 else D 3 1) ∧ g_Reader_refuseNumberIf (b01 b) D 3 2 = (if b = true ∧ D 3 1 = 0 then D 3 8 else D 3 2) := by
  unfold g_Reader_refuseNumberIf
  cases b
  · rw [if_pos (show b01 false = 0 from rfl)]
    exact ⟨fun _ _ => rfl, fun _ _ _ => rfl, by rw [if_neg (fun e => absurd e.1 (by decide))], by rw [if_neg (fun e => absurd e.1 (by decide))]⟩
  · obtain ⟨r1, r2, r3, r4⟩ := refuse_X D (nI 2) (D 3 8)
    rw [if_neg (show ¬ b01 true = 0 by decide)]
    refine ⟨r1, r2, ?_, ?_⟩
    · rw [r3]
      by_cases g : D 3 1 = 0
      · rw [if_pos g, if_pos ⟨rfl, g⟩]
      · rw [if_neg g, if_neg (fun e => g e.2)]
    · rw [r4]
      by_cases g : D 3 1 = 0
      · rw [if_pos g, if_pos ⟨rfl, g⟩]
      · rw [if_neg g, if_neg (fun e => g e.2)]
/-- told: the word, then the number -/
theorem told_ST (hF : 2000 ≤ F) {t : Nat} (h : ST D D' t) {w : Nat} (h1 : 1000 ≤ w) (h2 : w ≤ 1020) (a b : Int32) (hb : b.toInt ≤ 1000) : ∃ G r r' D1 D1', g_Reader_takeWord F w D = some G ∧ g_Reader_takeNumber F a b G = some (r, D1) ∧ g_M_told F w a b D' = some (r', D1') ∧ ST D1 D1' t ∧ XF D D1 ∧ MF D' D1' ∧ (D1' 116 12 = 0 → r = r' ∧ a ≤ r ∧ r ≤ b) ∧ (¬ D1' 116 12 = 0 → r = -1) := by
  obtain ⟨G, G', a1, a2, a3, a4, a5⟩ := word_ST hF h h1 h2
  obtain ⟨r, r', D1, D1', b1, b2, b3, b4, b5, b6, b7, b8⟩ := takeNumber_ST hF a3 a b hb
  refine ⟨G, r, r', D1, D1', a1, b1, ?_, b3, XF_t a4 b4, MF_t a5 b5, fun e => ⟨(b7 e).1, (b7 e).2.1, (b7 e).2.2.1⟩, b8⟩
  unfold g_M_told
  rw [a2, ob_some, b2, ob_some]
end WS
